/-! 57.init3: the constructors with loops (partly written by gen_init3.py) -/
theorem wi_52 : Cond.methodLink RX0 3 objectInit ∈ pt_tbl := pt_tbl_in (List.mem_of_getElem? (i := 168) (by decide +kernel)) rfl
theorem wi_53 : Cond.fieldLink RX0 9 (TX0 0).1 (TX0 0).2.1 (TX0 0).2.2.1 ∈ pt_tbl := pt_tbl_in (List.mem_of_getElem? (i := 172) (by decide +kernel)) rfl
theorem wi_54 : Cond.fieldLink RX0 15 (TX0 1).1 (TX0 1).2.1 (TX0 1).2.2.1 ∈ pt_tbl := pt_tbl_in (List.mem_of_getElem? (i := 174) (by decide +kernel)) rfl
theorem wi_55 : Cond.classLink RX0 18 RX4 ∈ pt_tbl := pt_tbl_in (List.mem_of_getElem? (i := 169) (by decide +kernel)) rfl
theorem wi_56 : Cond.fieldLink RX0 20 (TX0 2).1 (TX0 2).2.1 (TX0 2).2.2.1 ∈ pt_tbl := pt_tbl_in (List.mem_of_getElem? (i := 175) (by decide +kernel)) rfl
theorem wi_57 : Cond.methodLink RX6 3 objectInit ∈ pt_tbl := pt_tbl_in (List.mem_of_getElem? (i := 77) (by decide +kernel)) rfl
theorem wi_58 : Cond.classLink RX6 9 RX3 ∈ pt_tbl := pt_tbl_in (List.mem_of_getElem? (i := 80) (by decide +kernel)) rfl
theorem wi_59 : Cond.fieldLink RX6 11 (TX6 0).1 (TX6 0).2.1 (TX6 0).2.2.1 ∈ pt_tbl := pt_tbl_in (List.mem_of_getElem? (i := 236) (by decide +kernel)) rfl
theorem wi_60 : Cond.classLink RX6 15 RX5 ∈ pt_tbl := pt_tbl_in (List.mem_of_getElem? (i := 82) (by decide +kernel)) rfl
theorem wi_61 : Cond.instantiable RX5 9 ∈ pt_tbl := pt_tbl_in (List.mem_of_getElem? (i := 83) (by decide +kernel)) rfl
theorem wi_62 : Cond.initialized RX5 ∈ pt_tbl := pt_tbl_in (List.mem_of_getElem? (i := 58) (by decide +kernel)) rfl
theorem wi_63 : Cond.instanceMethod yX5_init ∈ pt_tbl := pt_tbl_in (List.mem_of_getElem? (i := 85) (by decide +kernel)) rfl
theorem wi_64 : Cond.fieldLink RX6 18 (TX6 1).1 (TX6 1).2.1 (TX6 1).2.2.1 ∈ pt_tbl := pt_tbl_in (List.mem_of_getElem? (i := 237) (by decide +kernel)) rfl
theorem wi_65 : Cond.classLink RX6 22 RX4 ∈ pt_tbl := pt_tbl_in (List.mem_of_getElem? (i := 161) (by decide +kernel)) rfl
theorem wi_66 : Cond.fieldLink RX6 25 (TX6 2).1 (TX6 2).2.1 (TX6 2).2.2.1 ∈ pt_tbl := pt_tbl_in (List.mem_of_getElem? (i := 238) (by decide +kernel)) rfl
theorem wi_67 : Cond.classLink RX6 29 RX0 ∈ pt_tbl := pt_tbl_in (List.mem_of_getElem? (i := 163) (by decide +kernel)) rfl
theorem wi_68 : Cond.instantiable RX0 3 ∈ pt_tbl := pt_tbl_in (List.mem_of_getElem? (i := 164) (by decide +kernel)) rfl
theorem wi_69 : Cond.initialized RX0 ∈ pt_tbl := pt_tbl_in (List.mem_of_getElem? (i := 60) (by decide +kernel)) rfl
theorem wi_70 : Cond.instanceMethod yX0_init ∈ pt_tbl := pt_tbl_in (List.mem_of_getElem? (i := 166) (by decide +kernel)) rfl
theorem wi_71 : Cond.methodLink RX6 31 yX0_init ∈ pt_tbl := pt_tbl_in (List.mem_of_getElem? (i := 165) (by decide +kernel)) rfl
theorem wi_72 : Cond.fieldLink RX6 32 (TX6 3).1 (TX6 3).2.1 (TX6 3).2.2.1 ∈ pt_tbl := pt_tbl_in (List.mem_of_getElem? (i := 239) (by decide +kernel)) rfl
theorem wi_73 : Cond.fieldLink RX6 36 (TX6 4).1 (TX6 4).2.1 (TX6 4).2.2.1 ∈ pt_tbl := pt_tbl_in (List.mem_of_getElem? (i := 240) (by decide +kernel)) rfl
theorem wi_74 : Cond.classLink RX6 40 RX1 ∈ pt_tbl := pt_tbl_in (List.mem_of_getElem? (i := 183) (by decide +kernel)) rfl
theorem wi_75 : Cond.instantiable RX1 2 ∈ pt_tbl := pt_tbl_in (List.mem_of_getElem? (i := 184) (by decide +kernel)) rfl
theorem wi_76 : Cond.initialized RX1 ∈ pt_tbl := pt_tbl_in (List.mem_of_getElem? (i := 61) (by decide +kernel)) rfl
theorem wi_77 : Cond.instanceMethod yX1_init ∈ pt_tbl := pt_tbl_in (List.mem_of_getElem? (i := 186) (by decide +kernel)) rfl
theorem wi_78 : Cond.fieldLink RX6 43 (TX6 5).1 (TX6 5).2.1 (TX6 5).2.2.1 ∈ pt_tbl := pt_tbl_in (List.mem_of_getElem? (i := 241) (by decide +kernel)) rfl
theorem wi_79 : Cond.fieldLink RX6 47 (TX6 6).1 (TX6 6).2.1 (TX6 6).2.2.1 ∈ pt_tbl := pt_tbl_in (List.mem_of_getElem? (i := 242) (by decide +kernel)) rfl
theorem wi_80 : Cond.fieldLink RX6 51 (TX6 7).1 (TX6 7).2.1 (TX6 7).2.2.1 ∈ pt_tbl := pt_tbl_in (List.mem_of_getElem? (i := 243) (by decide +kernel)) rfl
theorem wi_81 : Cond.classLink RX6 54 RX2 ∈ pt_tbl := pt_tbl_in (List.mem_of_getElem? (i := 198) (by decide +kernel)) rfl
theorem wi_82 : Cond.instantiable RX2 3 ∈ pt_tbl := pt_tbl_in (List.mem_of_getElem? (i := 199) (by decide +kernel)) rfl
theorem wi_83 : Cond.initialized RX2 ∈ pt_tbl := pt_tbl_in (List.mem_of_getElem? (i := 62) (by decide +kernel)) rfl
theorem wi_84 : Cond.instanceMethod yX2_init ∈ pt_tbl := pt_tbl_in (List.mem_of_getElem? (i := 201) (by decide +kernel)) rfl
theorem wi_85 : Cond.fieldLink RX6 57 (TX6 8).1 (TX6 8).2.1 (TX6 8).2.2.1 ∈ pt_tbl := pt_tbl_in (List.mem_of_getElem? (i := 244) (by decide +kernel)) rfl
theorem wi_86 : Cond.fieldLink RX6 61 (TX6 9).1 (TX6 9).2.1 (TX6 9).2.2.1 ∈ pt_tbl := pt_tbl_in (List.mem_of_getElem? (i := 245) (by decide +kernel)) rfl
theorem wi_87 : Cond.fieldLink RX6 65 (TX6 10).1 (TX6 10).2.1 (TX6 10).2.2.1 ∈ pt_tbl := pt_tbl_in (List.mem_of_getElem? (i := 246) (by decide +kernel)) rfl
theorem wi_88 : Cond.fieldLink RX6 68 (TX6 11).1 (TX6 11).2.1 (TX6 11).2.2.1 ∈ pt_tbl := pt_tbl_in (List.mem_of_getElem? (i := 247) (by decide +kernel)) rfl
theorem wi_89 : Cond.fieldLink RX6 71 (TX6 12).1 (TX6 12).2.1 (TX6 12).2.2.1 ∈ pt_tbl := pt_tbl_in (List.mem_of_getElem? (i := 248) (by decide +kernel)) rfl
theorem wi_90 : Cond.instantiable RX3 4 ∈ pt_tbl := pt_tbl_in (List.mem_of_getElem? (i := 214) (by decide +kernel)) rfl
theorem wi_91 : Cond.initialized RX3 ∈ pt_tbl := pt_tbl_in (List.mem_of_getElem? (i := 63) (by decide +kernel)) rfl
theorem wi_92 : Cond.instanceMethod yX3_init ∈ pt_tbl := pt_tbl_in (List.mem_of_getElem? (i := 216) (by decide +kernel)) rfl
set_option maxHeartbeats 1000000 in
theorem n_acts_l {p : Program} {l : Launch} {e : Env} {s : State} {m : MethodId} {args : Array Value} {below : List Frame} {meth : Method} {c : Code} {R : Room} {Qw : State → Prop} {D : va_G} {cc : Nat → ClassId} {A : Nat → Prop} {h0 q1 : Nat} (hRc : 97 ≤ R.cells) (hRs : 1968 ≤ R.slots) (hRR : 2 ≤ R.frames ∧ 32 ≤ R.locals) (hx : p.tables.exec = Jvm.exec) (hb : c.code = cX0_init) (hml : c.maxLocals = 2) (hown : s.vm.findClass RX0 = some m.cls) (hts : ∀ w ∈ pt_tbl, w.before args s = true) (hK : va_K D vwCl (n_ty cc) s) (hN : n_N s) (hA : ∀ q, s.heap.size ≤ q → A q)
    (fin : ∀ (w : va_W) (H : Heap) (locs : List Loc) (ls : Array Slot), n_s0 cc h0 w → va_P D vwCl w H → va_D A w → va_S A s.heap H locs → W p l e R s m args below meth c H locs 97 1968 Qw (F0 m 50 ls [])) :
    ∀ (n i : Nat) (w : va_W) (f : Nat → Option Nat) (H : Heap) (locs : List Loc) (ls : Array Slot) (cells slots : Nat), i + n = 24 → cells = 1 + 4 * i → slots = 24 + 81 * i → w.length = 2 + 4 * i → w[0]? = some (h0, .inr (0, [.int 0, .int 0, .ref q1])) → w[1]? = some (n_rf (cc 3) q1 24 f) → (∀ j, j < i → ∃ a, f j = some a ∧ n_a4 cc w (2 + 4 * j) a) → va_P D vwCl w H → va_D A w → va_S A s.heap H locs → lv_has ls 2 [(0, .ref h0), (1, .int (nI i))] → W p l e R s m args below meth c H locs cells slots Qw (F0 m 25 ls []) := by
  intro n
  induction n with
  | zero =>
    intro i w f H locs ls cells slots hi hc hs hw h1 h2 h3 hP hD hS hl
    have ei : i = 24 := by omega
    subst ei
    subst hc hs
    refine lv_iload_n hx hb (k := 1) (by decide +kernel) rfl (lv_at hl 1 rfl) ?_
    refine lv_bipush (v := 24) hx hb (n := 24) (by decide +kernel) (by decide +kernel) ?_
    refine lv_icmp_ge (off := 22) (tgt := 50) hx hb (by decide +kernel) (by decide) (fun _ => ?_) (fun q => absurd (nI_le (a := 24) (b := 24) (by omega) (by omega)) q)
    refine fin w H locs ls ⟨hw, q1, f, h1, h2, fun j hj => ?_⟩ hP hD hS
    obtain ⟨a, g1, g2⟩ := h3 j hj
    exact ⟨a, g1, n_a4_w g2 (fun z y _ hy => by rw [show 0 + 2 + 4 * j + z = 2 + 4 * j + z by omega]; exact hy)⟩
  | succ n ih =>
    intro i w f H locs ls cells slots hi hc hs hw h1 h2 h3 hP hD hS hl
    subst hc hs
    refine lv_iload_n hx hb (k := 1) (by decide +kernel) rfl (lv_at hl 1 rfl) ?_
    refine lv_bipush (v := 24) hx hb (n := 24) (by decide +kernel) (by decide +kernel) ?_
    refine lv_icmp_ge (off := 22) (tgt := 50) hx hb (by decide +kernel) (by decide) (fun q => absurd q (nI_ge (a := i) (b := 24) (by omega) (by omega))) (fun _ => ?_)
    refine lv_aload_n hx hb (k := 0) (by decide +kernel) rfl (lv_at hl 0 rfl) ?_
    refine va_get (D := D) (ci := 0) (v := .ref q1) (C := RX0) (T := TX0) (N := 3) hx hb hts in_0 hown hK hP 0 h1 rfl 2 (by decide) (hts _ wi_56) (fun _ h9 => h9) rfl (by decide +kernel) ?_
    refine lv_iload_n hx hb (k := 1) (by decide +kernel) rfl (lv_at hl 1 rfl) ?_
    refine va_new (ci := 4) (fs := [.int 0, .int 0, .int 0, .null, .null, .null]) (C := RX4) (T := TX4) (N := 6) hx hb hts in_4 tyX4 tyX4_ok hown (hts _ wi_55) (hts _ wi_25) (hts _ wi_26) hK hP hD hS hA rfl (fun j hj => by rcases (show j = 0 ∨ j = 1 ∨ j = 2 ∨ j = 3 ∨ j = 4 ∨ j = 5 by omega) with rfl | rfl | rfl | rfl | rfl | rfl <;> rfl) (by omega) (by omega) (by decide +kernel) (fun q H hP hD hS => ?_)
    refine W.widen (k := 1 + 4 * i + 1) (n := 24 + 81 * i + 6) (by omega) (by omega) ?_
    refine lv_dup hx hb (by decide +kernel) rfl ?_
    refine n_call (w := w) (q := q) (rest := [.ref q, .int (nI i), .ref q1]) hx hb hml hown hts (n_X4 l D cc) (List.mem_of_getElem? (i := 92) (by decide +kernel)) wi_26 wi_27 rfl rfl rfl (by decide +kernel) ⟨by show 2 ≤ R.frames; omega, by show 32 ≤ R.locals; omega⟩ (hN.1 (RX0, 24, yX4_init, RX6) (List.mem_of_getElem? (i := 3) rfl)) hK hN hP hD hS hA hl.1 (Nat.le_of_ble_eq_true rfl) (by decide +kernel) ⟨by omega, by omega⟩ (fun w1 H locs hw1 hP hD hS => ?_)
    obtain ⟨hw1a, hw1l⟩ := n_s4_a hw1
    have g4 : n_a4 cc (w ++ w1) (2 + 4 * i) q := n_a4_w hw1a (n_wR hw)
    obtain ⟨s1, s2, s3, g5, -⟩ := id g4
    have hw2 : 0 < w.length := by omega
    have h1' : (w ++ w1)[0]? = some (h0, .inr (0, [.int 0, .int 0, .ref q1])) := by rw [List.getElem?_append_left (by omega)]; exact h1
    have h2' : (w ++ w1)[1]? = some (n_rf (cc 3) q1 24 f) := by rw [List.getElem?_append_left (by omega)]; exact h2
    refine va_astq (q0 := 1) (t0 := 3) (qk := 2 + 4 * i) (ci := 4) (r := (RX4, TX4, 6)) hx hb hK hP hD hS h2' rfl g5 rfl (vp_in_nI (n := i) (N := 24) (by omega) (by omega)) (by decide +kernel) (fun H locs hP hD hS => ?_)
    rw [nI_clamp (by omega)] at hP hD
    refine lv_iinc (v := nI (i + 1)) (lv' := [(1, .int (nI (i + 1))), (0, .ref h0)]) hx hb (n := 1) (by decide +kernel) hl (k := 1) rfl (nI_1 i) (by decide) rfl (fun ls hl => ?_)
    refine lv_goto (off := -22) (tgt := 25) hx hb (by decide +kernel) (by decide) ?_
    refine ih (i + 1) _ (va_up f i (some q)) _ _ _ _ _ (by omega) (by omega) (by omega) (by rw [List.length_set, List.length_append, hw, hw1l]; omega) ?_ ?_ (fun j hj => ?_) hP hD hS (lv_sub hl [1, 0] rfl)
    · rw [List.getElem?_set_ne (by omega)]; exact h1'
    · rw [List.getElem?_set_self (by rw [List.length_append]; omega)]
    · rcases Nat.lt_or_ge j i with z | z
      · obtain ⟨a, g1, g2⟩ := h3 j z
        refine ⟨a, by rw [va_up_ne _ _ (by omega)]; exact g1, n_a4_w (n_a4_w g2 (n_wL (v := w1))) (n_wS (Or.inl (by omega)))⟩
      · have ej : j = i := by omega
        subst ej
        exact ⟨q, va_up_self _ _ _, n_a4_w g4 (n_wS (Or.inl (by omega)))⟩
set_option maxHeartbeats 4000000 in
set_option maxRecDepth 20000 in
theorem n_X0 (l : Launch) (D : va_G) (cc : Nat → ClassId) : nC l D cc yX0_init cX0_init 2 { frames := 2, cells := 97, slots := 1968, locals := 32 } 0 [.int 0, .int 0, .null] 97 1968 (n_s0 cc) := by
  intro h0 sz
  refine Met.ofW (cc := cX0_init) (maxL := 2) (ret := none) (by decide) rfl ?_
  intro p e s m args below meth c s₁ B hml hv
  obtain ⟨rfl, hsz, hP, hK, hD0, hN⟩ := hv
  have hx := B.exec
  have hb := B.bytes
  have hr := B.returns
  have hts0 := atoms_spec (ws := n_ws yX0_init cX0_init 2) B.pre
  have hts : ∀ w ∈ pt_tbl, w.before #[.ref h0] s = true := fun w hw => hts0 w (List.mem_cons_of_mem _ hw)
  have hown : s.vm.findClass RX0 = some m.cls := findClass_of_methodNamed B.named
  have hlocks := B.notSynchronized
  have hin : meth.name = "<init>" := (name_of_methodNamed B.named B.method).1
  subst hsz
  have hD := hD0.self (sz := s.heap.size)
  generalize hAe : va_A [(h0, .inr (0, [.int 0, .int 0, .null]))] s.heap.size = A at hD ⊢
  have hA : ∀ q : Nat, s.heap.size ≤ q → A q := fun q h => by rw [← hAe]; exact Or.inr h
  have hS : va_S A s.heap s.heap [] := va_S.rf
  have hl := lv_entry ([.ref h0]) (n := 2) (Nat.le_of_ble_eq_true rfl)
  rw [lg_entry_eq]
  generalize (lg_sl ([.ref h0]) ++ List.replicate (2 - (lg_sl ([.ref h0])).length) Slot.unset).toArray = ls at hl ⊢
  have hl : lv_has ls 2 [(0, .ref h0)] := hl
  refine lv_aload_n hx hb (k := 0) (by decide +kernel) rfl (lv_at hl 0 rfl) ?_
  refine W.objInit hx hb hown (hts _ wi_52) (hts _ wi_1) (hts _ wi_2) rfl (by rw [hml]; exact hl.1) rfl (show decode cX0_init 1 = .ok (.invokespecial 3, 3) by decide +kernel) (Nat.le_of_ble_eq_true rfl) (Nat.le_of_ble_eq_true rfl) ?_
  refine W.eq (g2 := F0 m 4 ls []) rfl ?_
  refine lv_aload_n hx hb (k := 0) (by decide +kernel) rfl (lv_at hl 0 rfl) ?_
  refine lv_iconst (v := 0) hx hb (n := 0) (by decide +kernel) (by decide +kernel) ?_
  refine va_put (D := D) (ci := 0) (v := .int 0) (ty := tyX0 0) (C := RX0) (T := TX0) (N := 3) hx hb hts in_0 tyX0 tyX0_ok nmX0 hown hK hP hD hS 0 rfl rfl 0 (by decide) (hts _ wi_53) (fun _ h9 => h9) rfl (by decide +kernel) rfl rfl (Nat.le_of_ble_eq_true rfl) (by decide +kernel) (fun H locs hP hD hS => ?_)
  have hP : va_P D vwCl [(h0, .inr (0, [.int 0, .int 0, .null]))] H := hP
  have hD : va_D A [(h0, .inr (0, [.int 0, .int 0, .null]))] := hD
  refine lv_aload_n hx hb (k := 0) (by decide +kernel) rfl (lv_at hl 0 rfl) ?_
  refine lv_iconst (v := 0) hx hb (n := 0) (by decide +kernel) (by decide +kernel) ?_
  refine va_put (D := D) (ci := 0) (v := .int 0) (ty := tyX0 1) (C := RX0) (T := TX0) (N := 3) hx hb hts in_0 tyX0 tyX0_ok nmX0 hown hK hP hD hS 0 rfl rfl 1 (by decide) (hts _ wi_54) (fun _ h9 => h9) rfl (by decide +kernel) rfl rfl (Nat.le_of_ble_eq_true rfl) (by decide +kernel) (fun H locs hP hD hS => ?_)
  have hP : va_P D vwCl [(h0, .inr (0, [.int 0, .int 0, .null]))] H := hP
  have hD : va_D A [(h0, .inr (0, [.int 0, .int 0, .null]))] := hD
  refine lv_aload_n hx hb (k := 0) (by decide +kernel) rfl (lv_at hl 0 rfl) ?_
  refine lv_bipush (v := 24) hx hb (n := 24) (by decide +kernel) (by decide +kernel) ?_
  refine va_newq (own := RX0) (C := RX4) (N' := 24) hx hb hown (hts _ wi_55) hN.2.2 hK hP hD hS hA (by decide) (by decide) (by decide) (Nat.le_of_ble_eq_true rfl) (Nat.le_of_ble_eq_true rfl) (by decide +kernel) (fun q1 cA H hK1 hP hD hS => ?_)
  have ec := n_c3 hK1
  subst ec
  clear hK1
  have hP : va_P D vwCl [(h0, .inr (0, [.int 0, .int 0, .null])), (q1, .inl (cc 3, 24, .inr (.inr (.inr (.inr (fun _ => none))))))] H := hP
  have hD : va_D A [(h0, .inr (0, [.int 0, .int 0, .null])), (q1, .inl (cc 3, 24, .inr (.inr (.inr (.inr (fun _ => none))))))] := hD
  refine va_putF (D := D) (ci := 0) (v := .ref q1) (ty := tyX0 2) (C := RX0) (T := TX0) (N := 3) hx hb hts in_0 tyX0 tyX0_ok nmX0 hown hK hP hD hS 0 rfl rfl 2 (by decide) (hts _ wi_56) (fun _ h9 => h9) rfl hin rfl (by decide +kernel) rfl rfl (Nat.le_of_ble_eq_true rfl) (by decide +kernel) (fun H locs hP hD hS => ?_)
  have hP : va_P D vwCl [(h0, .inr (0, [.int 0, .int 0, .ref q1])), (q1, .inl (cc 3, 24, .inr (.inr (.inr (.inr (fun _ => none))))))] H := hP
  have hD : va_D A [(h0, .inr (0, [.int 0, .int 0, .ref q1])), (q1, .inl (cc 3, 24, .inr (.inr (.inr (.inr (fun _ => none))))))] := hD
  refine lv_iconst (v := 0) hx hb (n := 0) (by decide +kernel) (by decide +kernel) ?_
  refine lv_istore_n (k := 1) (lv' := [(1, .int 0), (0, .ref h0)]) hx hb (by decide +kernel) rfl hl (by decide) rfl (fun ls hl => ?_)
  refine n_acts_l (q1 := q1) (h0 := h0) (A := A) (Nat.le_of_ble_eq_true rfl) (Nat.le_of_ble_eq_true rfl) ⟨Nat.le_of_ble_eq_true rfl, Nat.le_of_ble_eq_true rfl⟩ hx hb hml hown hts hK hN hA (fun w H locs ls hsh hP hD hS => ?_) 24 0 _ (fun _ => none) _ _ _ _ _ (by omega) rfl rfl rfl rfl rfl (fun j hj => absurd hj (Nat.not_lt_zero j)) hP hD hS (lv_sub hl [1, 0] rfl)
  exact W.vret (hlocks := hlocks) hx hb hr (fun t ht hW => ⟨⟨w, rfl, hsh, by rw [ht]; exact hP, hD⟩, hS.F ht⟩) hS.2.2 (by decide +kernel)
def n_b6 (cc : Nat → ClassId) (w : va_W) (h0 r t st ac im as pa a1 a2 a3 a4 : Nat) (f g : Nat → Option Nat) : Prop := w[0]? = some (h0, .inr (6, [.ref r, .ref t, .ref st, .ref ac, .ref im, .ref as, .int 0, .int 0, .ref pa, .ref a1, .ref a2, .ref a3, .ref a4])) ∧ w[1]? = some (n_rf (cc 2) r 8 f) ∧ n_a5 cc w 2 t ∧ n_a4 cc w 8 st ∧ n_a0 cc w 12 ac ∧ w[110]? = some (n_rf (cc 3) im 2 g) ∧ n_a1 cc w 111 as ∧ n_a2 cc w 113 pa ∧ w[115]? = some (n_ar cc a1 8) ∧ w[116]? = some (n_ar cc a2 8) ∧ w[117]? = some (n_ar cc a3 8) ∧ w[118]? = some (n_ar cc a4 8)
theorem n_b6_w {cc : Nat → ClassId} {w w' : va_W} {h0 r t st ac im as pa a1 a2 a3 a4 : Nat} {f g f' g' : Nat → Option Nat} (h : n_b6 cc w h0 r t st ac im as pa a1 a2 a3 a4 f g) (hk : ∀ k x, k < 119 → k ≠ 1 → k ≠ 110 → w[k]? = some x → w'[k]? = some x) (h1 : w'[1]? = some (n_rf (cc 2) r 8 f')) (h2 : w'[110]? = some (n_rf (cc 3) im 2 g')) : n_b6 cc w' h0 r t st ac im as pa a1 a2 a3 a4 f' g' := by
  obtain ⟨b0, b1, b2, b3, b4, b5, b6, b7, b8, b9, b10, b11⟩ := h
  exact ⟨hk _ _ (by omega) (by omega) (by omega) b0, h1, n_a5_w b2 (fun j x hj hx => hk _ _ (by omega) (by omega) (by omega) hx), n_a4_w b3 (fun j x hj hx => hk _ _ (by omega) (by omega) (by omega) hx), n_a0_w b4 (fun j x hj hx => hk _ _ (by omega) (by omega) (by omega) hx), h2, n_a1_w b6 (fun j x hj hx => hk _ _ (by omega) (by omega) (by omega) hx), n_a2_w b7 (fun j x hj hx => hk _ _ (by omega) (by omega) (by omega) hx), hk _ _ (by omega) (by omega) (by omega) b8, hk _ _ (by omega) (by omega) (by omega) b9, hk _ _ (by omega) (by omega) (by omega) b10, hk _ _ (by omega) (by omega) (by omega) b11⟩
def n_s6 (cc : Nat → ClassId) (h0 : Nat) (w : va_W) : Prop := w.length = 143 ∧ ∃ (r t st ac im as pa a1 a2 a3 a4 : Nat) (f g : Nat → Option Nat), n_b6 cc w h0 r t st ac im as pa a1 a2 a3 a4 f g ∧ (∀ j, j < 8 → ∃ b, f j = some b ∧ n_a3 cc w (119 + 2 * j) b) ∧ ∀ j, j < 2 → ∃ b, g j = some b ∧ n_a4 cc w (135 + 4 * j) b
set_option maxHeartbeats 1000000 in
theorem n_rows_l {p : Program} {l : Launch} {e : Env} {s : State} {m : MethodId} {args : Array Value} {below : List Frame} {meth : Method} {c : Code} {R : Room} {Qw : State → Prop} {D : va_G} {cc : Nat → ClassId} {A : Nat → Prop} {h0 r t st ac im as pa a1 a2 a3 a4 : Nat} (hRc : 142 ≤ R.cells) (hRs : 3124 ≤ R.slots) (hRR : 3 ≤ R.frames ∧ 60 ≤ R.locals) (hx : p.tables.exec = Jvm.exec) (hb : c.code = cX6_init) (hml : c.maxLocals = 2) (hown : s.vm.findClass RX6 = some m.cls) (hts : ∀ w ∈ pt_tbl, w.before args s = true) (hK : va_K D vwCl (n_ty cc) s) (hN : n_N s) (hA : ∀ q, s.heap.size ≤ q → A q)
    (fin : ∀ (w : va_W) (f g : Nat → Option Nat) (H : Heap) (locs : List Loc) (ls : Array Slot) (x : Int32), w.length = 135 → n_b6 cc w h0 r t st ac im as pa a1 a2 a3 a4 f g → (∀ j, j < 8 → ∃ b, f j = some b ∧ n_a3 cc w (119 + 2 * j) b) → va_P D vwCl w H → va_D A w → va_S A s.heap H locs → lv_has ls 2 [(0, .ref h0), (1, .int x)] → W p l e R s m args below meth c H locs 134 2962 Qw (F0 m 145 ls [])) :
    ∀ (n i : Nat) (w : va_W) (f g : Nat → Option Nat) (H : Heap) (locs : List Loc) (ls : Array Slot) (cells slots : Nat), i + n = 8 → cells = 118 + 2 * i → slots = 2610 + 44 * i → w.length = 119 + 2 * i → n_b6 cc w h0 r t st ac im as pa a1 a2 a3 a4 f g → (∀ j, j < i → ∃ b, f j = some b ∧ n_a3 cc w (119 + 2 * j) b) → va_P D vwCl w H → va_D A w → va_S A s.heap H locs → lv_has ls 2 [(0, .ref h0), (1, .int (nI i))] → W p l e R s m args below meth c H locs cells slots Qw (F0 m 120 ls []) := by
  intro n
  induction n with
  | zero =>
    intro i w f g H locs ls cells slots hi hc hs hw hB h3 hP hD hS hl
    have ei : i = 8 := by omega
    subst ei
    subst hc hs
    refine lv_iload_n hx hb (k := 1) (by decide +kernel) rfl (lv_at hl 1 rfl) ?_
    refine lv_bipush (v := 8) hx hb (n := 8) (by decide +kernel) (by decide +kernel) ?_
    refine lv_icmp_ge (off := 22) (tgt := 145) hx hb (by decide +kernel) (by decide) (fun _ => ?_) (fun q => absurd (nI_le (a := 8) (b := 8) (by omega) (by omega)) q)
    exact fin w f g H locs ls _ hw hB h3 hP hD hS hl
  | succ n ih =>
    intro i w f g H locs ls cells slots hi hc hs hw hB h3 hP hD hS hl
    subst hc hs
    obtain ⟨b0, b1, b2, b3, b4, b5, b6⟩ := id hB
    refine lv_iload_n hx hb (k := 1) (by decide +kernel) rfl (lv_at hl 1 rfl) ?_
    refine lv_bipush (v := 8) hx hb (n := 8) (by decide +kernel) (by decide +kernel) ?_
    refine lv_icmp_ge (off := 22) (tgt := 145) hx hb (by decide +kernel) (by decide) (fun q => absurd q (nI_ge (a := i) (b := 8) (by omega) (by omega))) (fun _ => ?_)
    refine lv_aload_n hx hb (k := 0) (by decide +kernel) rfl (lv_at hl 0 rfl) ?_
    refine va_get (D := D) (ci := 6) (v := .ref r) (C := RX6) (T := TX6) (N := 13) hx hb hts in_6 hown hK hP 0 b0 rfl 0 (by decide) (hts _ wi_59) (fun _ h9 => h9) rfl (by decide +kernel) ?_
    refine lv_iload_n hx hb (k := 1) (by decide +kernel) rfl (lv_at hl 1 rfl) ?_
    refine va_new (ci := 3) (fs := [.int 0, .int 0, .int 0, .null]) (C := RX3) (T := TX3) (N := 4) hx hb hts in_3 tyX3 tyX3_ok hown (hts _ wi_58) (hts _ wi_90) (hts _ wi_91) hK hP hD hS hA rfl (fun j hj => by rcases (show j = 0 ∨ j = 1 ∨ j = 2 ∨ j = 3 by omega) with rfl | rfl | rfl | rfl <;> rfl) (by omega) (by omega) (by decide +kernel) (fun q H hP hD hS => ?_)
    refine W.widen (k := 118 + 2 * i + 1) (n := 2610 + 44 * i + 4) (by omega) (by omega) ?_
    refine lv_dup hx hb (by decide +kernel) rfl ?_
    refine n_call (w := w) (q := q) (rest := [.ref q, .int (nI i), .ref r]) hx hb hml hown hts (n_X3 l D cc) (List.mem_of_getElem? (i := 217) (by decide +kernel)) wi_91 wi_92 rfl rfl rfl (by decide +kernel) ⟨by show 2 ≤ R.frames; omega, by show 32 ≤ R.locals; omega⟩ (hN.1 (RX6, 74, yX3_init, RX6) (List.mem_of_getElem? (i := 6) rfl)) hK hN hP hD hS hA hl.1 (Nat.le_of_ble_eq_true rfl) (by decide +kernel) ⟨by omega, by omega⟩ (fun w1 H locs hw1 hP hD hS => ?_)
    obtain ⟨hw1a, hw1l⟩ := n_s3_a hw1
    have g4 : n_a3 cc (w ++ w1) (119 + 2 * i) q := n_a3_w hw1a (n_wR hw)
    obtain ⟨s1, g5, -⟩ := id g4
    have hB' : n_b6 cc (w ++ w1) h0 r t st ac im as pa a1 a2 a3 a4 f g := n_b6_w hB (fun k x hk _ _ hx => by rw [List.getElem?_append_left (by omega)]; exact hx) (by rw [List.getElem?_append_left (by omega)]; exact b1) (by rw [List.getElem?_append_left (by omega)]; exact b5)
    refine va_astq (q0 := 1) (t0 := 2) (qk := 119 + 2 * i) (ci := 3) (r := (RX3, TX3, 4)) hx hb hK hP hD hS hB'.2.1 rfl g5 rfl (vp_in_nI (n := i) (N := 8) (by omega) (by omega)) (by decide +kernel) (fun H locs hP hD hS => ?_)
    rw [nI_clamp (by omega)] at hP hD
    refine lv_iinc (v := nI (i + 1)) (lv' := [(1, .int (nI (i + 1))), (0, .ref h0)]) hx hb (n := 1) (by decide +kernel) hl (k := 1) rfl (nI_1 i) (by decide) rfl (fun ls hl => ?_)
    refine lv_goto (off := -22) (tgt := 120) hx hb (by decide +kernel) (by decide) ?_
    have hlen : (w ++ w1).length = 119 + 2 * (i + 1) := by rw [List.length_append, hw, hw1l]; omega
    refine ih (i + 1) _ (va_up f i (some q)) g _ _ _ _ _ (by omega) (by omega) (by omega) (by rw [List.length_set]; exact hlen) (n_b6_w hB' (fun k x hk k1 k2 hx => by rw [List.getElem?_set_ne (by omega)]; exact hx) (by rw [List.getElem?_set_self (by omega)]) (by rw [List.getElem?_set_ne (by omega)]; exact hB'.2.2.2.2.2.1)) (fun j hj => ?_) hP hD hS (lv_sub hl [1, 0] rfl)
    rcases Nat.lt_or_ge j i with z | z
    · obtain ⟨a, g1, g2⟩ := h3 j z
      exact ⟨a, by rw [va_up_ne _ _ (by omega)]; exact g1, n_a3_w (n_a3_w g2 (n_wL (v := w1))) (n_wS (Or.inl (by omega)))⟩
    · have ej : j = i := by omega
      subst ej
      exact ⟨q, va_up_self _ _ _, n_a3_w g4 (n_wS (Or.inl (by omega)))⟩
set_option maxHeartbeats 1000000 in
theorem n_imgs_l {p : Program} {l : Launch} {e : Env} {s : State} {m : MethodId} {args : Array Value} {below : List Frame} {meth : Method} {c : Code} {R : Room} {Qw : State → Prop} {D : va_G} {cc : Nat → ClassId} {A : Nat → Prop} {h0 r t st ac im as pa a1 a2 a3 a4 : Nat} (hRc : 142 ≤ R.cells) (hRs : 3124 ≤ R.slots) (hRR : 3 ≤ R.frames ∧ 60 ≤ R.locals) (hx : p.tables.exec = Jvm.exec) (hb : c.code = cX6_init) (hml : c.maxLocals = 2) (hown : s.vm.findClass RX6 = some m.cls) (hts : ∀ w ∈ pt_tbl, w.before args s = true) (hK : va_K D vwCl (n_ty cc) s) (hN : n_N s) (hA : ∀ q, s.heap.size ≤ q → A q)
    (fin : ∀ (w : va_W) (f g : Nat → Option Nat) (H : Heap) (locs : List Loc) (ls : Array Slot) (x : Int32), w.length = 143 → n_b6 cc w h0 r t st ac im as pa a1 a2 a3 a4 f g → (∀ j, j < 8 → ∃ b, f j = some b ∧ n_a3 cc w (119 + 2 * j) b) → (∀ j, j < 2 → ∃ b, g j = some b ∧ n_a4 cc w (135 + 4 * j) b) → va_P D vwCl w H → va_D A w → va_S A s.heap H locs → lv_has ls 2 [(0, .ref h0), (1, .int x)] → W p l e R s m args below meth c H locs 142 3124 Qw (F0 m 171 ls [])) :
    ∀ (n i : Nat) (w : va_W) (f g : Nat → Option Nat) (H : Heap) (locs : List Loc) (ls : Array Slot) (cells slots : Nat), i + n = 2 → cells = 134 + 4 * i → slots = 2962 + 81 * i → w.length = 135 + 4 * i → n_b6 cc w h0 r t st ac im as pa a1 a2 a3 a4 f g → (∀ j, j < 8 → ∃ b, f j = some b ∧ n_a3 cc w (119 + 2 * j) b) → (∀ j, j < i → ∃ b, g j = some b ∧ n_a4 cc w (135 + 4 * j) b) → va_P D vwCl w H → va_D A w → va_S A s.heap H locs → lv_has ls 2 [(0, .ref h0), (1, .int (nI i))] → W p l e R s m args below meth c H locs cells slots Qw (F0 m 147 ls []) := by
  intro n
  induction n with
  | zero =>
    intro i w f g H locs ls cells slots hi hc hs hw hB h3 h4 hP hD hS hl
    have ei : i = 2 := by omega
    subst ei
    subst hc hs
    refine lv_iload_n hx hb (k := 1) (by decide +kernel) rfl (lv_at hl 1 rfl) ?_
    refine lv_iconst (v := 2) hx hb (n := 2) (by decide +kernel) (by decide +kernel) ?_
    refine lv_icmp_ge (off := 22) (tgt := 171) hx hb (by decide +kernel) (by decide) (fun _ => ?_) (fun q => absurd (nI_le (a := 2) (b := 2) (by omega) (by omega)) q)
    exact fin w f g H locs ls _ hw hB h3 h4 hP hD hS hl
  | succ n ih =>
    intro i w f g H locs ls cells slots hi hc hs hw hB h3 h4 hP hD hS hl
    subst hc hs
    obtain ⟨b0, b1, b2, b3, b4, b5, b6⟩ := id hB
    refine lv_iload_n hx hb (k := 1) (by decide +kernel) rfl (lv_at hl 1 rfl) ?_
    refine lv_iconst (v := 2) hx hb (n := 2) (by decide +kernel) (by decide +kernel) ?_
    refine lv_icmp_ge (off := 22) (tgt := 171) hx hb (by decide +kernel) (by decide) (fun q => absurd q (nI_ge (a := i) (b := 2) (by omega) (by omega))) (fun _ => ?_)
    refine lv_aload_n hx hb (k := 0) (by decide +kernel) rfl (lv_at hl 0 rfl) ?_
    refine va_get (D := D) (ci := 6) (v := .ref im) (C := RX6) (T := TX6) (N := 13) hx hb hts in_6 hown hK hP 0 b0 rfl 4 (by decide) (hts _ wi_73) (fun _ h9 => h9) rfl (by decide +kernel) ?_
    refine lv_iload_n hx hb (k := 1) (by decide +kernel) rfl (lv_at hl 1 rfl) ?_
    refine va_new (ci := 4) (fs := [.int 0, .int 0, .int 0, .null, .null, .null]) (C := RX4) (T := TX4) (N := 6) hx hb hts in_4 tyX4 tyX4_ok hown (hts _ wi_65) (hts _ wi_25) (hts _ wi_26) hK hP hD hS hA rfl (fun j hj => by rcases (show j = 0 ∨ j = 1 ∨ j = 2 ∨ j = 3 ∨ j = 4 ∨ j = 5 by omega) with rfl | rfl | rfl | rfl | rfl | rfl <;> rfl) (by omega) (by omega) (by decide +kernel) (fun q H hP hD hS => ?_)
    refine W.widen (k := 134 + 4 * i + 1) (n := 2962 + 81 * i + 6) (by omega) (by omega) ?_
    refine lv_dup hx hb (by decide +kernel) rfl ?_
    refine n_call (w := w) (q := q) (rest := [.ref q, .int (nI i), .ref im]) hx hb hml hown hts (n_X4 l D cc) (List.mem_of_getElem? (i := 92) (by decide +kernel)) wi_26 wi_27 rfl rfl rfl (by decide +kernel) ⟨by show 2 ≤ R.frames; omega, by show 32 ≤ R.locals; omega⟩ (hN.1 (RX6, 24, yX4_init, RX6) (List.mem_of_getElem? (i := 2) rfl)) hK hN hP hD hS hA hl.1 (Nat.le_of_ble_eq_true rfl) (by decide +kernel) ⟨by omega, by omega⟩ (fun w1 H locs hw1 hP hD hS => ?_)
    obtain ⟨hw1a, hw1l⟩ := n_s4_a hw1
    have g4 : n_a4 cc (w ++ w1) (135 + 4 * i) q := n_a4_w hw1a (n_wR hw)
    obtain ⟨s1, s2, s3, g5, -⟩ := id g4
    have hB' : n_b6 cc (w ++ w1) h0 r t st ac im as pa a1 a2 a3 a4 f g := n_b6_w hB (fun k x hk _ _ hx => by rw [List.getElem?_append_left (by omega)]; exact hx) (by rw [List.getElem?_append_left (by omega)]; exact b1) (by rw [List.getElem?_append_left (by omega)]; exact b5)
    refine va_astq (q0 := 110) (t0 := 3) (qk := 135 + 4 * i) (ci := 4) (r := (RX4, TX4, 6)) hx hb hK hP hD hS hB'.2.2.2.2.2.1 rfl g5 rfl (vp_in_nI (n := i) (N := 2) (by omega) (by omega)) (by decide +kernel) (fun H locs hP hD hS => ?_)
    rw [nI_clamp (by omega)] at hP hD
    refine lv_iinc (v := nI (i + 1)) (lv' := [(1, .int (nI (i + 1))), (0, .ref h0)]) hx hb (n := 1) (by decide +kernel) hl (k := 1) rfl (nI_1 i) (by decide) rfl (fun ls hl => ?_)
    refine lv_goto (off := -21) (tgt := 147) hx hb (by decide +kernel) (by decide) ?_
    have hlen : (w ++ w1).length = 135 + 4 * (i + 1) := by rw [List.length_append, hw, hw1l]; omega
    refine ih (i + 1) _ f (va_up g i (some q)) _ _ _ _ _ (by omega) (by omega) (by omega) (by rw [List.length_set]; exact hlen) (n_b6_w hB' (fun k x hk k1 k2 hx => by rw [List.getElem?_set_ne (by omega)]; exact hx) (by rw [List.getElem?_set_ne (by omega)]; exact hB'.2.1) (by rw [List.getElem?_set_self (by omega)])) (fun j hj => ?_) (fun j hj => ?_) hP hD hS (lv_sub hl [1, 0] rfl)
    · obtain ⟨a, g1, g2⟩ := h3 j hj
      exact ⟨a, g1, n_a3_w (n_a3_w g2 (n_wL (v := w1))) (n_wS (Or.inl (by omega)))⟩
    · rcases Nat.lt_or_ge j i with z | z
      · obtain ⟨a, g1, g2⟩ := h4 j z
        exact ⟨a, by rw [va_up_ne _ _ (by omega)]; exact g1, n_a4_w (n_a4_w g2 (n_wL (v := w1))) (n_wS (Or.inl (by omega)))⟩
      · have ej : j = i := by omega
        subst ej
        exact ⟨q, va_up_self _ _ _, n_a4_w g4 (n_wS (Or.inl (by omega)))⟩
set_option maxHeartbeats 4000000 in
set_option maxRecDepth 20000 in
theorem n_X6 (l : Launch) (D : va_G) (cc : Nat → ClassId) : nC l D cc yX6_init cX6_init 2 { frames := 3, cells := 142, slots := 3124, locals := 60 } 6 [.null, .null, .null, .null, .null, .null, .int 0, .int 0, .null, .null, .null, .null, .null] 142 3124 (n_s6 cc) := by
  intro h0 sz
  refine Met.ofW (cc := cX6_init) (maxL := 2) (ret := none) (by decide) rfl ?_
  intro p e s m args below meth c s₁ B hml hv
  obtain ⟨rfl, hsz, hP, hK, hD0, hN⟩ := hv
  have hx := B.exec
  have hb := B.bytes
  have hr := B.returns
  have hts0 := atoms_spec (ws := n_ws yX6_init cX6_init 2) B.pre
  have hts : ∀ w ∈ pt_tbl, w.before #[.ref h0] s = true := fun w hw => hts0 w (List.mem_cons_of_mem _ hw)
  have hown : s.vm.findClass RX6 = some m.cls := findClass_of_methodNamed B.named
  have hlocks := B.notSynchronized
  have hin : meth.name = "<init>" := (name_of_methodNamed B.named B.method).1
  subst hsz
  have hD := hD0.self (sz := s.heap.size)
  generalize hAe : va_A [(h0, .inr (6, [.null, .null, .null, .null, .null, .null, .int 0, .int 0, .null, .null, .null, .null, .null]))] s.heap.size = A at hD ⊢
  have hA : ∀ q : Nat, s.heap.size ≤ q → A q := fun q h => by rw [← hAe]; exact Or.inr h
  have hS : va_S A s.heap s.heap [] := va_S.rf
  have hl := lv_entry ([.ref h0]) (n := 2) (Nat.le_of_ble_eq_true rfl)
  rw [lg_entry_eq]
  generalize (lg_sl ([.ref h0]) ++ List.replicate (2 - (lg_sl ([.ref h0])).length) Slot.unset).toArray = ls at hl ⊢
  have hl : lv_has ls 2 [(0, .ref h0)] := hl
  refine lv_aload_n hx hb (k := 0) (by decide +kernel) rfl (lv_at hl 0 rfl) ?_
  refine W.objInit hx hb hown (hts _ wi_57) (hts _ wi_1) (hts _ wi_2) rfl (by rw [hml]; exact hl.1) rfl (show decode cX6_init 1 = .ok (.invokespecial 3, 3) by decide +kernel) (Nat.le_of_ble_eq_true rfl) (Nat.le_of_ble_eq_true rfl) ?_
  refine W.eq (g2 := F0 m 4 ls []) rfl ?_
  refine lv_aload_n hx hb (k := 0) (by decide +kernel) rfl (lv_at hl 0 rfl) ?_
  refine lv_bipush (v := 8) hx hb (n := 8) (by decide +kernel) (by decide +kernel) ?_
  refine va_newq (own := RX6) (C := RX3) (N' := 8) hx hb hown (hts _ wi_58) hN.2.1 hK hP hD hS hA (by decide) (by decide) (by decide) (Nat.le_of_ble_eq_true rfl) (Nat.le_of_ble_eq_true rfl) (by decide +kernel) (fun q1 cA H hK1 hP hD hS => ?_)
  have ec := n_c2 hK1
  subst ec
  clear hK1
  have hP : va_P D vwCl ((h0, .inr (6, [.null, .null, .null, .null, .null, .null, .int 0, .int 0, .null, .null, .null, .null, .null])) :: (([] : va_W) ++ [n_rf (cc 2) q1 8 (fun _ => none)])) H := hP
  have hD : va_D A ((h0, .inr (6, [.null, .null, .null, .null, .null, .null, .int 0, .int 0, .null, .null, .null, .null, .null])) :: (([] : va_W) ++ [n_rf (cc 2) q1 8 (fun _ => none)])) := hD
  refine va_putF (D := D) (ci := 6) (v := .ref q1) (ty := tyX6 0) (C := RX6) (T := TX6) (N := 13) hx hb hts in_6 tyX6 tyX6_ok nmX6 hown hK hP hD hS 0 rfl rfl 0 (by decide) (hts _ wi_59) (fun _ h9 => h9) rfl hin rfl (by decide +kernel) rfl rfl (Nat.le_of_ble_eq_true rfl) (by decide +kernel) (fun H locs hP hD hS => ?_)
  have hP : va_P D vwCl ((h0, .inr (6, [.ref q1, .null, .null, .null, .null, .null, .int 0, .int 0, .null, .null, .null, .null, .null])) :: (([] : va_W) ++ [n_rf (cc 2) q1 8 (fun _ => none)])) H := hP
  have hD : va_D A ((h0, .inr (6, [.ref q1, .null, .null, .null, .null, .null, .int 0, .int 0, .null, .null, .null, .null, .null])) :: (([] : va_W) ++ [n_rf (cc 2) q1 8 (fun _ => none)])) := hD
  refine lv_aload_n hx hb (k := 0) (by decide +kernel) rfl (lv_at hl 0 rfl) ?_
  refine va_new (ci := 5) (fs := [.int 0, .null, .int 0, .int 0, .null, .int 0, .int 0, .int 0, .int 0]) (C := RX5) (T := TX5) (N := 9) hx hb hts in_5 tyX5 tyX5_ok hown (hts _ wi_60) (hts _ wi_61) (hts _ wi_62) hK hP hD hS hA rfl (fun j hj => by rcases (show j = 0 ∨ j = 1 ∨ j = 2 ∨ j = 3 ∨ j = 4 ∨ j = 5 ∨ j = 6 ∨ j = 7 ∨ j = 8 by omega) with rfl | rfl | rfl | rfl | rfl | rfl | rfl | rfl | rfl <;> rfl) (Nat.le_of_ble_eq_true rfl) (Nat.le_of_ble_eq_true rfl) (by decide +kernel) (fun q2 H hP hD hS => ?_)
  refine lv_dup hx hb (by decide +kernel) rfl ?_
  refine n_call (w := ((h0, .inr (6, [.ref q1, .null, .null, .null, .null, .null, .int 0, .int 0, .null, .null, .null, .null, .null])) :: (([] : va_W) ++ [n_rf (cc 2) q1 8 (fun _ => none)]))) (q := q2) (rest := [.ref q2, .ref h0]) hx hb hml hown hts (n_X5 l D cc) (List.mem_of_getElem? (i := 86) (by decide +kernel)) wi_62 wi_63 rfl rfl rfl (by decide +kernel) ⟨Nat.le_of_ble_eq_true rfl, Nat.le_of_ble_eq_true rfl⟩ (hN.1 (RX6, 17, yX5_init, RX6) (List.mem_of_getElem? (i := 0) rfl)) hK hN hP hD hS hA hl.1 (Nat.le_of_ble_eq_true rfl) (by decide +kernel) ⟨Nat.le_of_ble_eq_true rfl, Nat.le_of_ble_eq_true rfl⟩ (fun w2 H locs hw2 hP hD hS => ?_)
  have hP : va_P D vwCl ((h0, .inr (6, [.ref q1, .null, .null, .null, .null, .null, .int 0, .int 0, .null, .null, .null, .null, .null])) :: ((([] : va_W) ++ [n_rf (cc 2) q1 8 (fun _ => none)]) ++ w2)) H := hP
  have hD : va_D A ((h0, .inr (6, [.ref q1, .null, .null, .null, .null, .null, .int 0, .int 0, .null, .null, .null, .null, .null])) :: ((([] : va_W) ++ [n_rf (cc 2) q1 8 (fun _ => none)]) ++ w2)) := hD
  refine va_putF (D := D) (ci := 6) (v := .ref q2) (ty := tyX6 1) (C := RX6) (T := TX6) (N := 13) hx hb hts in_6 tyX6 tyX6_ok nmX6 hown hK hP hD hS 0 rfl rfl 1 (by decide) (hts _ wi_64) (fun _ h9 => h9) rfl hin rfl (by decide +kernel) rfl rfl (Nat.le_of_ble_eq_true rfl) (by decide +kernel) (fun H locs hP hD hS => ?_)
  have hP : va_P D vwCl ((h0, .inr (6, [.ref q1, .ref q2, .null, .null, .null, .null, .int 0, .int 0, .null, .null, .null, .null, .null])) :: ((([] : va_W) ++ [n_rf (cc 2) q1 8 (fun _ => none)]) ++ w2)) H := hP
  have hD : va_D A ((h0, .inr (6, [.ref q1, .ref q2, .null, .null, .null, .null, .int 0, .int 0, .null, .null, .null, .null, .null])) :: ((([] : va_W) ++ [n_rf (cc 2) q1 8 (fun _ => none)]) ++ w2)) := hD
  refine lv_aload_n hx hb (k := 0) (by decide +kernel) rfl (lv_at hl 0 rfl) ?_
  refine va_new (ci := 4) (fs := [.int 0, .int 0, .int 0, .null, .null, .null]) (C := RX4) (T := TX4) (N := 6) hx hb hts in_4 tyX4 tyX4_ok hown (hts _ wi_65) (hts _ wi_25) (hts _ wi_26) hK hP hD hS hA rfl (fun j hj => by rcases (show j = 0 ∨ j = 1 ∨ j = 2 ∨ j = 3 ∨ j = 4 ∨ j = 5 by omega) with rfl | rfl | rfl | rfl | rfl | rfl <;> rfl) (Nat.le_of_ble_eq_true rfl) (Nat.le_of_ble_eq_true rfl) (by decide +kernel) (fun q3 H hP hD hS => ?_)
  refine lv_dup hx hb (by decide +kernel) rfl ?_
  refine n_call (w := ((h0, .inr (6, [.ref q1, .ref q2, .null, .null, .null, .null, .int 0, .int 0, .null, .null, .null, .null, .null])) :: ((([] : va_W) ++ [n_rf (cc 2) q1 8 (fun _ => none)]) ++ w2))) (q := q3) (rest := [.ref q3, .ref h0]) hx hb hml hown hts (n_X4 l D cc) (List.mem_of_getElem? (i := 92) (by decide +kernel)) wi_26 wi_27 rfl rfl rfl (by decide +kernel) ⟨Nat.le_of_ble_eq_true rfl, Nat.le_of_ble_eq_true rfl⟩ (hN.1 (RX6, 24, yX4_init, RX6) (List.mem_of_getElem? (i := 2) rfl)) hK hN hP hD hS hA hl.1 (Nat.le_of_ble_eq_true rfl) (by decide +kernel) ⟨Nat.le_of_ble_eq_true rfl, Nat.le_of_ble_eq_true rfl⟩ (fun w3 H locs hw3 hP hD hS => ?_)
  have hP : va_P D vwCl ((h0, .inr (6, [.ref q1, .ref q2, .null, .null, .null, .null, .int 0, .int 0, .null, .null, .null, .null, .null])) :: (((([] : va_W) ++ [n_rf (cc 2) q1 8 (fun _ => none)]) ++ w2) ++ w3)) H := hP
  have hD : va_D A ((h0, .inr (6, [.ref q1, .ref q2, .null, .null, .null, .null, .int 0, .int 0, .null, .null, .null, .null, .null])) :: (((([] : va_W) ++ [n_rf (cc 2) q1 8 (fun _ => none)]) ++ w2) ++ w3)) := hD
  refine va_putF (D := D) (ci := 6) (v := .ref q3) (ty := tyX6 2) (C := RX6) (T := TX6) (N := 13) hx hb hts in_6 tyX6 tyX6_ok nmX6 hown hK hP hD hS 0 rfl rfl 2 (by decide) (hts _ wi_66) (fun _ h9 => h9) rfl hin rfl (by decide +kernel) rfl rfl (Nat.le_of_ble_eq_true rfl) (by decide +kernel) (fun H locs hP hD hS => ?_)
  have hP : va_P D vwCl ((h0, .inr (6, [.ref q1, .ref q2, .ref q3, .null, .null, .null, .int 0, .int 0, .null, .null, .null, .null, .null])) :: (((([] : va_W) ++ [n_rf (cc 2) q1 8 (fun _ => none)]) ++ w2) ++ w3)) H := hP
  have hD : va_D A ((h0, .inr (6, [.ref q1, .ref q2, .ref q3, .null, .null, .null, .int 0, .int 0, .null, .null, .null, .null, .null])) :: (((([] : va_W) ++ [n_rf (cc 2) q1 8 (fun _ => none)]) ++ w2) ++ w3)) := hD
  refine lv_aload_n hx hb (k := 0) (by decide +kernel) rfl (lv_at hl 0 rfl) ?_
  refine va_new (ci := 0) (fs := [.int 0, .int 0, .null]) (C := RX0) (T := TX0) (N := 3) hx hb hts in_0 tyX0 tyX0_ok hown (hts _ wi_67) (hts _ wi_68) (hts _ wi_69) hK hP hD hS hA rfl (fun j hj => by rcases (show j = 0 ∨ j = 1 ∨ j = 2 by omega) with rfl | rfl | rfl <;> rfl) (Nat.le_of_ble_eq_true rfl) (Nat.le_of_ble_eq_true rfl) (by decide +kernel) (fun q4 H hP hD hS => ?_)
  refine lv_dup hx hb (by decide +kernel) rfl ?_
  refine n_call2 (w := ((h0, .inr (6, [.ref q1, .ref q2, .ref q3, .null, .null, .null, .int 0, .int 0, .null, .null, .null, .null, .null])) :: (((([] : va_W) ++ [n_rf (cc 2) q1 8 (fun _ => none)]) ++ w2) ++ w3))) (q := q4) (rest := [.ref q4, .ref h0]) hx hb hml hown hts (n_X0 l D cc) (List.mem_of_getElem? (i := 167) (by decide +kernel)) wi_69 wi_70 rfl rfl rfl (by decide +kernel) ⟨Nat.le_of_ble_eq_true rfl, Nat.le_of_ble_eq_true rfl⟩ wi_71 hK hN hP hD hS hA hl.1 (Nat.le_of_ble_eq_true rfl) (by decide +kernel) ⟨Nat.le_of_ble_eq_true rfl, Nat.le_of_ble_eq_true rfl⟩ (fun w4 H locs hw4 hP hD hS => ?_)
  have hP : va_P D vwCl ((h0, .inr (6, [.ref q1, .ref q2, .ref q3, .null, .null, .null, .int 0, .int 0, .null, .null, .null, .null, .null])) :: ((((([] : va_W) ++ [n_rf (cc 2) q1 8 (fun _ => none)]) ++ w2) ++ w3) ++ w4)) H := hP
  have hD : va_D A ((h0, .inr (6, [.ref q1, .ref q2, .ref q3, .null, .null, .null, .int 0, .int 0, .null, .null, .null, .null, .null])) :: ((((([] : va_W) ++ [n_rf (cc 2) q1 8 (fun _ => none)]) ++ w2) ++ w3) ++ w4)) := hD
  refine va_putF (D := D) (ci := 6) (v := .ref q4) (ty := tyX6 3) (C := RX6) (T := TX6) (N := 13) hx hb hts in_6 tyX6 tyX6_ok nmX6 hown hK hP hD hS 0 rfl rfl 3 (by decide) (hts _ wi_72) (fun _ h9 => h9) rfl hin rfl (by decide +kernel) rfl rfl (Nat.le_of_ble_eq_true rfl) (by decide +kernel) (fun H locs hP hD hS => ?_)
  have hP : va_P D vwCl ((h0, .inr (6, [.ref q1, .ref q2, .ref q3, .ref q4, .null, .null, .int 0, .int 0, .null, .null, .null, .null, .null])) :: ((((([] : va_W) ++ [n_rf (cc 2) q1 8 (fun _ => none)]) ++ w2) ++ w3) ++ w4)) H := hP
  have hD : va_D A ((h0, .inr (6, [.ref q1, .ref q2, .ref q3, .ref q4, .null, .null, .int 0, .int 0, .null, .null, .null, .null, .null])) :: ((((([] : va_W) ++ [n_rf (cc 2) q1 8 (fun _ => none)]) ++ w2) ++ w3) ++ w4)) := hD
  refine lv_aload_n hx hb (k := 0) (by decide +kernel) rfl (lv_at hl 0 rfl) ?_
  refine lv_iconst (v := 2) hx hb (n := 2) (by decide +kernel) (by decide +kernel) ?_
  refine va_newq (own := RX6) (C := RX4) (N' := 2) hx hb hown (hts _ wi_65) hN.2.2 hK hP hD hS hA (by decide) (by decide) (by decide) (Nat.le_of_ble_eq_true rfl) (Nat.le_of_ble_eq_true rfl) (by decide +kernel) (fun q5 cA H hK1 hP hD hS => ?_)
  have ec := n_c3 hK1
  subst ec
  clear hK1
  have hP : va_P D vwCl ((h0, .inr (6, [.ref q1, .ref q2, .ref q3, .ref q4, .null, .null, .int 0, .int 0, .null, .null, .null, .null, .null])) :: (((((([] : va_W) ++ [n_rf (cc 2) q1 8 (fun _ => none)]) ++ w2) ++ w3) ++ w4) ++ [n_rf (cc 3) q5 2 (fun _ => none)])) H := hP
  have hD : va_D A ((h0, .inr (6, [.ref q1, .ref q2, .ref q3, .ref q4, .null, .null, .int 0, .int 0, .null, .null, .null, .null, .null])) :: (((((([] : va_W) ++ [n_rf (cc 2) q1 8 (fun _ => none)]) ++ w2) ++ w3) ++ w4) ++ [n_rf (cc 3) q5 2 (fun _ => none)])) := hD
  refine va_putF (D := D) (ci := 6) (v := .ref q5) (ty := tyX6 4) (C := RX6) (T := TX6) (N := 13) hx hb hts in_6 tyX6 tyX6_ok nmX6 hown hK hP hD hS 0 rfl rfl 4 (by decide) (hts _ wi_73) (fun _ h9 => h9) rfl hin rfl (by decide +kernel) rfl rfl (Nat.le_of_ble_eq_true rfl) (by decide +kernel) (fun H locs hP hD hS => ?_)
  have hP : va_P D vwCl ((h0, .inr (6, [.ref q1, .ref q2, .ref q3, .ref q4, .ref q5, .null, .int 0, .int 0, .null, .null, .null, .null, .null])) :: (((((([] : va_W) ++ [n_rf (cc 2) q1 8 (fun _ => none)]) ++ w2) ++ w3) ++ w4) ++ [n_rf (cc 3) q5 2 (fun _ => none)])) H := hP
  have hD : va_D A ((h0, .inr (6, [.ref q1, .ref q2, .ref q3, .ref q4, .ref q5, .null, .int 0, .int 0, .null, .null, .null, .null, .null])) :: (((((([] : va_W) ++ [n_rf (cc 2) q1 8 (fun _ => none)]) ++ w2) ++ w3) ++ w4) ++ [n_rf (cc 3) q5 2 (fun _ => none)])) := hD
  refine lv_aload_n hx hb (k := 0) (by decide +kernel) rfl (lv_at hl 0 rfl) ?_
  refine va_new (ci := 1) (fs := [.int 0, .null]) (C := RX1) (T := TX1) (N := 2) hx hb hts in_1 tyX1 tyX1_ok hown (hts _ wi_74) (hts _ wi_75) (hts _ wi_76) hK hP hD hS hA rfl (fun j hj => by rcases (show j = 0 ∨ j = 1 by omega) with rfl | rfl <;> rfl) (Nat.le_of_ble_eq_true rfl) (Nat.le_of_ble_eq_true rfl) (by decide +kernel) (fun q6 H hP hD hS => ?_)
  refine lv_dup hx hb (by decide +kernel) rfl ?_
  refine n_call (w := ((h0, .inr (6, [.ref q1, .ref q2, .ref q3, .ref q4, .ref q5, .null, .int 0, .int 0, .null, .null, .null, .null, .null])) :: (((((([] : va_W) ++ [n_rf (cc 2) q1 8 (fun _ => none)]) ++ w2) ++ w3) ++ w4) ++ [n_rf (cc 3) q5 2 (fun _ => none)]))) (q := q6) (rest := [.ref q6, .ref h0]) hx hb hml hown hts (n_X1 l D cc) (List.mem_of_getElem? (i := 187) (by decide +kernel)) wi_76 wi_77 rfl rfl rfl (by decide +kernel) ⟨Nat.le_of_ble_eq_true rfl, Nat.le_of_ble_eq_true rfl⟩ (hN.1 (RX6, 42, yX1_init, RX6) (List.mem_of_getElem? (i := 4) rfl)) hK hN hP hD hS hA hl.1 (Nat.le_of_ble_eq_true rfl) (by decide +kernel) ⟨Nat.le_of_ble_eq_true rfl, Nat.le_of_ble_eq_true rfl⟩ (fun w6 H locs hw6 hP hD hS => ?_)
  have hP : va_P D vwCl ((h0, .inr (6, [.ref q1, .ref q2, .ref q3, .ref q4, .ref q5, .null, .int 0, .int 0, .null, .null, .null, .null, .null])) :: ((((((([] : va_W) ++ [n_rf (cc 2) q1 8 (fun _ => none)]) ++ w2) ++ w3) ++ w4) ++ [n_rf (cc 3) q5 2 (fun _ => none)]) ++ w6)) H := hP
  have hD : va_D A ((h0, .inr (6, [.ref q1, .ref q2, .ref q3, .ref q4, .ref q5, .null, .int 0, .int 0, .null, .null, .null, .null, .null])) :: ((((((([] : va_W) ++ [n_rf (cc 2) q1 8 (fun _ => none)]) ++ w2) ++ w3) ++ w4) ++ [n_rf (cc 3) q5 2 (fun _ => none)]) ++ w6)) := hD
  refine va_putF (D := D) (ci := 6) (v := .ref q6) (ty := tyX6 5) (C := RX6) (T := TX6) (N := 13) hx hb hts in_6 tyX6 tyX6_ok nmX6 hown hK hP hD hS 0 rfl rfl 5 (by decide) (hts _ wi_78) (fun _ h9 => h9) rfl hin rfl (by decide +kernel) rfl rfl (Nat.le_of_ble_eq_true rfl) (by decide +kernel) (fun H locs hP hD hS => ?_)
  have hP : va_P D vwCl ((h0, .inr (6, [.ref q1, .ref q2, .ref q3, .ref q4, .ref q5, .ref q6, .int 0, .int 0, .null, .null, .null, .null, .null])) :: ((((((([] : va_W) ++ [n_rf (cc 2) q1 8 (fun _ => none)]) ++ w2) ++ w3) ++ w4) ++ [n_rf (cc 3) q5 2 (fun _ => none)]) ++ w6)) H := hP
  have hD : va_D A ((h0, .inr (6, [.ref q1, .ref q2, .ref q3, .ref q4, .ref q5, .ref q6, .int 0, .int 0, .null, .null, .null, .null, .null])) :: ((((((([] : va_W) ++ [n_rf (cc 2) q1 8 (fun _ => none)]) ++ w2) ++ w3) ++ w4) ++ [n_rf (cc 3) q5 2 (fun _ => none)]) ++ w6)) := hD
  refine lv_aload_n hx hb (k := 0) (by decide +kernel) rfl (lv_at hl 0 rfl) ?_
  refine lv_iconst (v := 0) hx hb (n := 0) (by decide +kernel) (by decide +kernel) ?_
  refine va_put (D := D) (ci := 6) (v := .int 0) (ty := tyX6 6) (C := RX6) (T := TX6) (N := 13) hx hb hts in_6 tyX6 tyX6_ok nmX6 hown hK hP hD hS 0 rfl rfl 6 (by decide) (hts _ wi_79) (fun _ h9 => h9) rfl (by decide +kernel) rfl rfl (Nat.le_of_ble_eq_true rfl) (by decide +kernel) (fun H locs hP hD hS => ?_)
  have hP : va_P D vwCl ((h0, .inr (6, [.ref q1, .ref q2, .ref q3, .ref q4, .ref q5, .ref q6, .int 0, .int 0, .null, .null, .null, .null, .null])) :: ((((((([] : va_W) ++ [n_rf (cc 2) q1 8 (fun _ => none)]) ++ w2) ++ w3) ++ w4) ++ [n_rf (cc 3) q5 2 (fun _ => none)]) ++ w6)) H := hP
  have hD : va_D A ((h0, .inr (6, [.ref q1, .ref q2, .ref q3, .ref q4, .ref q5, .ref q6, .int 0, .int 0, .null, .null, .null, .null, .null])) :: ((((((([] : va_W) ++ [n_rf (cc 2) q1 8 (fun _ => none)]) ++ w2) ++ w3) ++ w4) ++ [n_rf (cc 3) q5 2 (fun _ => none)]) ++ w6)) := hD
  refine lv_aload_n hx hb (k := 0) (by decide +kernel) rfl (lv_at hl 0 rfl) ?_
  refine lv_iconst (v := 0) hx hb (n := 0) (by decide +kernel) (by decide +kernel) ?_
  refine va_put (D := D) (ci := 6) (v := .int 0) (ty := tyX6 7) (C := RX6) (T := TX6) (N := 13) hx hb hts in_6 tyX6 tyX6_ok nmX6 hown hK hP hD hS 0 rfl rfl 7 (by decide) (hts _ wi_80) (fun _ h9 => h9) rfl (by decide +kernel) rfl rfl (Nat.le_of_ble_eq_true rfl) (by decide +kernel) (fun H locs hP hD hS => ?_)
  have hP : va_P D vwCl ((h0, .inr (6, [.ref q1, .ref q2, .ref q3, .ref q4, .ref q5, .ref q6, .int 0, .int 0, .null, .null, .null, .null, .null])) :: ((((((([] : va_W) ++ [n_rf (cc 2) q1 8 (fun _ => none)]) ++ w2) ++ w3) ++ w4) ++ [n_rf (cc 3) q5 2 (fun _ => none)]) ++ w6)) H := hP
  have hD : va_D A ((h0, .inr (6, [.ref q1, .ref q2, .ref q3, .ref q4, .ref q5, .ref q6, .int 0, .int 0, .null, .null, .null, .null, .null])) :: ((((((([] : va_W) ++ [n_rf (cc 2) q1 8 (fun _ => none)]) ++ w2) ++ w3) ++ w4) ++ [n_rf (cc 3) q5 2 (fun _ => none)]) ++ w6)) := hD
  refine lv_aload_n hx hb (k := 0) (by decide +kernel) rfl (lv_at hl 0 rfl) ?_
  refine va_new (ci := 2) (fs := [.int 0, .int 0, .null]) (C := RX2) (T := TX2) (N := 3) hx hb hts in_2 tyX2 tyX2_ok hown (hts _ wi_81) (hts _ wi_82) (hts _ wi_83) hK hP hD hS hA rfl (fun j hj => by rcases (show j = 0 ∨ j = 1 ∨ j = 2 by omega) with rfl | rfl | rfl <;> rfl) (Nat.le_of_ble_eq_true rfl) (Nat.le_of_ble_eq_true rfl) (by decide +kernel) (fun q7 H hP hD hS => ?_)
  refine lv_dup hx hb (by decide +kernel) rfl ?_
  refine n_call (w := ((h0, .inr (6, [.ref q1, .ref q2, .ref q3, .ref q4, .ref q5, .ref q6, .int 0, .int 0, .null, .null, .null, .null, .null])) :: ((((((([] : va_W) ++ [n_rf (cc 2) q1 8 (fun _ => none)]) ++ w2) ++ w3) ++ w4) ++ [n_rf (cc 3) q5 2 (fun _ => none)]) ++ w6))) (q := q7) (rest := [.ref q7, .ref h0]) hx hb hml hown hts (n_X2 l D cc) (List.mem_of_getElem? (i := 202) (by decide +kernel)) wi_83 wi_84 rfl rfl rfl (by decide +kernel) ⟨Nat.le_of_ble_eq_true rfl, Nat.le_of_ble_eq_true rfl⟩ (hN.1 (RX6, 56, yX2_init, RX6) (List.mem_of_getElem? (i := 5) rfl)) hK hN hP hD hS hA hl.1 (Nat.le_of_ble_eq_true rfl) (by decide +kernel) ⟨Nat.le_of_ble_eq_true rfl, Nat.le_of_ble_eq_true rfl⟩ (fun w7 H locs hw7 hP hD hS => ?_)
  have hP : va_P D vwCl ((h0, .inr (6, [.ref q1, .ref q2, .ref q3, .ref q4, .ref q5, .ref q6, .int 0, .int 0, .null, .null, .null, .null, .null])) :: (((((((([] : va_W) ++ [n_rf (cc 2) q1 8 (fun _ => none)]) ++ w2) ++ w3) ++ w4) ++ [n_rf (cc 3) q5 2 (fun _ => none)]) ++ w6) ++ w7)) H := hP
  have hD : va_D A ((h0, .inr (6, [.ref q1, .ref q2, .ref q3, .ref q4, .ref q5, .ref q6, .int 0, .int 0, .null, .null, .null, .null, .null])) :: (((((((([] : va_W) ++ [n_rf (cc 2) q1 8 (fun _ => none)]) ++ w2) ++ w3) ++ w4) ++ [n_rf (cc 3) q5 2 (fun _ => none)]) ++ w6) ++ w7)) := hD
  refine va_putF (D := D) (ci := 6) (v := .ref q7) (ty := tyX6 8) (C := RX6) (T := TX6) (N := 13) hx hb hts in_6 tyX6 tyX6_ok nmX6 hown hK hP hD hS 0 rfl rfl 8 (by decide) (hts _ wi_85) (fun _ h9 => h9) rfl hin rfl (by decide +kernel) rfl rfl (Nat.le_of_ble_eq_true rfl) (by decide +kernel) (fun H locs hP hD hS => ?_)
  have hP : va_P D vwCl ((h0, .inr (6, [.ref q1, .ref q2, .ref q3, .ref q4, .ref q5, .ref q6, .int 0, .int 0, .ref q7, .null, .null, .null, .null])) :: (((((((([] : va_W) ++ [n_rf (cc 2) q1 8 (fun _ => none)]) ++ w2) ++ w3) ++ w4) ++ [n_rf (cc 3) q5 2 (fun _ => none)]) ++ w6) ++ w7)) H := hP
  have hD : va_D A ((h0, .inr (6, [.ref q1, .ref q2, .ref q3, .ref q4, .ref q5, .ref q6, .int 0, .int 0, .ref q7, .null, .null, .null, .null])) :: (((((((([] : va_W) ++ [n_rf (cc 2) q1 8 (fun _ => none)]) ++ w2) ++ w3) ++ w4) ++ [n_rf (cc 3) q5 2 (fun _ => none)]) ++ w6) ++ w7)) := hD
  refine lv_aload_n hx hb (k := 0) (by decide +kernel) rfl (lv_at hl 0 rfl) ?_
  refine lv_bipush (v := 8) hx hb (n := 8) (by decide +kernel) (by decide +kernel) ?_
  refine va_newa (atype := .int) (ty := .int) (N' := 8) (a0 := (8, .inl (fun _ => 0))) hx hb (hts _ wi_6) rfl hK hP hD hS hA (fun _ => rfl) (by decide) (by decide) (by decide) (Nat.le_of_ble_eq_true rfl) (Nat.le_of_ble_eq_true rfl) (by decide +kernel) (fun q8 cA H hK1 hP hD hS => ?_)
  have ec := n_c0 hK1
  subst ec
  clear hK1
  have hP : va_P D vwCl ((h0, .inr (6, [.ref q1, .ref q2, .ref q3, .ref q4, .ref q5, .ref q6, .int 0, .int 0, .ref q7, .null, .null, .null, .null])) :: ((((((((([] : va_W) ++ [n_rf (cc 2) q1 8 (fun _ => none)]) ++ w2) ++ w3) ++ w4) ++ [n_rf (cc 3) q5 2 (fun _ => none)]) ++ w6) ++ w7) ++ [n_ar cc q8 8])) H := hP
  have hD : va_D A ((h0, .inr (6, [.ref q1, .ref q2, .ref q3, .ref q4, .ref q5, .ref q6, .int 0, .int 0, .ref q7, .null, .null, .null, .null])) :: ((((((((([] : va_W) ++ [n_rf (cc 2) q1 8 (fun _ => none)]) ++ w2) ++ w3) ++ w4) ++ [n_rf (cc 3) q5 2 (fun _ => none)]) ++ w6) ++ w7) ++ [n_ar cc q8 8])) := hD
  refine va_putF (D := D) (ci := 6) (v := .ref q8) (ty := tyX6 9) (C := RX6) (T := TX6) (N := 13) hx hb hts in_6 tyX6 tyX6_ok nmX6 hown hK hP hD hS 0 rfl rfl 9 (by decide) (hts _ wi_86) (fun _ h9 => h9) rfl hin rfl (by decide +kernel) rfl rfl (Nat.le_of_ble_eq_true rfl) (by decide +kernel) (fun H locs hP hD hS => ?_)
  have hP : va_P D vwCl ((h0, .inr (6, [.ref q1, .ref q2, .ref q3, .ref q4, .ref q5, .ref q6, .int 0, .int 0, .ref q7, .ref q8, .null, .null, .null])) :: ((((((((([] : va_W) ++ [n_rf (cc 2) q1 8 (fun _ => none)]) ++ w2) ++ w3) ++ w4) ++ [n_rf (cc 3) q5 2 (fun _ => none)]) ++ w6) ++ w7) ++ [n_ar cc q8 8])) H := hP
  have hD : va_D A ((h0, .inr (6, [.ref q1, .ref q2, .ref q3, .ref q4, .ref q5, .ref q6, .int 0, .int 0, .ref q7, .ref q8, .null, .null, .null])) :: ((((((((([] : va_W) ++ [n_rf (cc 2) q1 8 (fun _ => none)]) ++ w2) ++ w3) ++ w4) ++ [n_rf (cc 3) q5 2 (fun _ => none)]) ++ w6) ++ w7) ++ [n_ar cc q8 8])) := hD
  refine lv_aload_n hx hb (k := 0) (by decide +kernel) rfl (lv_at hl 0 rfl) ?_
  refine lv_bipush (v := 8) hx hb (n := 8) (by decide +kernel) (by decide +kernel) ?_
  refine va_newa (atype := .int) (ty := .int) (N' := 8) (a0 := (8, .inl (fun _ => 0))) hx hb (hts _ wi_6) rfl hK hP hD hS hA (fun _ => rfl) (by decide) (by decide) (by decide) (Nat.le_of_ble_eq_true rfl) (Nat.le_of_ble_eq_true rfl) (by decide +kernel) (fun q9 cA H hK1 hP hD hS => ?_)
  have ec := n_c0 hK1
  subst ec
  clear hK1
  have hP : va_P D vwCl ((h0, .inr (6, [.ref q1, .ref q2, .ref q3, .ref q4, .ref q5, .ref q6, .int 0, .int 0, .ref q7, .ref q8, .null, .null, .null])) :: (((((((((([] : va_W) ++ [n_rf (cc 2) q1 8 (fun _ => none)]) ++ w2) ++ w3) ++ w4) ++ [n_rf (cc 3) q5 2 (fun _ => none)]) ++ w6) ++ w7) ++ [n_ar cc q8 8]) ++ [n_ar cc q9 8])) H := hP
  have hD : va_D A ((h0, .inr (6, [.ref q1, .ref q2, .ref q3, .ref q4, .ref q5, .ref q6, .int 0, .int 0, .ref q7, .ref q8, .null, .null, .null])) :: (((((((((([] : va_W) ++ [n_rf (cc 2) q1 8 (fun _ => none)]) ++ w2) ++ w3) ++ w4) ++ [n_rf (cc 3) q5 2 (fun _ => none)]) ++ w6) ++ w7) ++ [n_ar cc q8 8]) ++ [n_ar cc q9 8])) := hD
  refine va_putF (D := D) (ci := 6) (v := .ref q9) (ty := tyX6 10) (C := RX6) (T := TX6) (N := 13) hx hb hts in_6 tyX6 tyX6_ok nmX6 hown hK hP hD hS 0 rfl rfl 10 (by decide) (hts _ wi_87) (fun _ h9 => h9) rfl hin rfl (by decide +kernel) rfl rfl (Nat.le_of_ble_eq_true rfl) (by decide +kernel) (fun H locs hP hD hS => ?_)
  have hP : va_P D vwCl ((h0, .inr (6, [.ref q1, .ref q2, .ref q3, .ref q4, .ref q5, .ref q6, .int 0, .int 0, .ref q7, .ref q8, .ref q9, .null, .null])) :: (((((((((([] : va_W) ++ [n_rf (cc 2) q1 8 (fun _ => none)]) ++ w2) ++ w3) ++ w4) ++ [n_rf (cc 3) q5 2 (fun _ => none)]) ++ w6) ++ w7) ++ [n_ar cc q8 8]) ++ [n_ar cc q9 8])) H := hP
  have hD : va_D A ((h0, .inr (6, [.ref q1, .ref q2, .ref q3, .ref q4, .ref q5, .ref q6, .int 0, .int 0, .ref q7, .ref q8, .ref q9, .null, .null])) :: (((((((((([] : va_W) ++ [n_rf (cc 2) q1 8 (fun _ => none)]) ++ w2) ++ w3) ++ w4) ++ [n_rf (cc 3) q5 2 (fun _ => none)]) ++ w6) ++ w7) ++ [n_ar cc q8 8]) ++ [n_ar cc q9 8])) := hD
  refine lv_aload_n hx hb (k := 0) (by decide +kernel) rfl (lv_at hl 0 rfl) ?_
  refine lv_bipush (v := 8) hx hb (n := 8) (by decide +kernel) (by decide +kernel) ?_
  refine va_newa (atype := .int) (ty := .int) (N' := 8) (a0 := (8, .inl (fun _ => 0))) hx hb (hts _ wi_6) rfl hK hP hD hS hA (fun _ => rfl) (by decide) (by decide) (by decide) (Nat.le_of_ble_eq_true rfl) (Nat.le_of_ble_eq_true rfl) (by decide +kernel) (fun q10 cA H hK1 hP hD hS => ?_)
  have ec := n_c0 hK1
  subst ec
  clear hK1
  have hP : va_P D vwCl ((h0, .inr (6, [.ref q1, .ref q2, .ref q3, .ref q4, .ref q5, .ref q6, .int 0, .int 0, .ref q7, .ref q8, .ref q9, .null, .null])) :: ((((((((((([] : va_W) ++ [n_rf (cc 2) q1 8 (fun _ => none)]) ++ w2) ++ w3) ++ w4) ++ [n_rf (cc 3) q5 2 (fun _ => none)]) ++ w6) ++ w7) ++ [n_ar cc q8 8]) ++ [n_ar cc q9 8]) ++ [n_ar cc q10 8])) H := hP
  have hD : va_D A ((h0, .inr (6, [.ref q1, .ref q2, .ref q3, .ref q4, .ref q5, .ref q6, .int 0, .int 0, .ref q7, .ref q8, .ref q9, .null, .null])) :: ((((((((((([] : va_W) ++ [n_rf (cc 2) q1 8 (fun _ => none)]) ++ w2) ++ w3) ++ w4) ++ [n_rf (cc 3) q5 2 (fun _ => none)]) ++ w6) ++ w7) ++ [n_ar cc q8 8]) ++ [n_ar cc q9 8]) ++ [n_ar cc q10 8])) := hD
  refine va_putF (D := D) (ci := 6) (v := .ref q10) (ty := tyX6 11) (C := RX6) (T := TX6) (N := 13) hx hb hts in_6 tyX6 tyX6_ok nmX6 hown hK hP hD hS 0 rfl rfl 11 (by decide) (hts _ wi_88) (fun _ h9 => h9) rfl hin rfl (by decide +kernel) rfl rfl (Nat.le_of_ble_eq_true rfl) (by decide +kernel) (fun H locs hP hD hS => ?_)
  have hP : va_P D vwCl ((h0, .inr (6, [.ref q1, .ref q2, .ref q3, .ref q4, .ref q5, .ref q6, .int 0, .int 0, .ref q7, .ref q8, .ref q9, .ref q10, .null])) :: ((((((((((([] : va_W) ++ [n_rf (cc 2) q1 8 (fun _ => none)]) ++ w2) ++ w3) ++ w4) ++ [n_rf (cc 3) q5 2 (fun _ => none)]) ++ w6) ++ w7) ++ [n_ar cc q8 8]) ++ [n_ar cc q9 8]) ++ [n_ar cc q10 8])) H := hP
  have hD : va_D A ((h0, .inr (6, [.ref q1, .ref q2, .ref q3, .ref q4, .ref q5, .ref q6, .int 0, .int 0, .ref q7, .ref q8, .ref q9, .ref q10, .null])) :: ((((((((((([] : va_W) ++ [n_rf (cc 2) q1 8 (fun _ => none)]) ++ w2) ++ w3) ++ w4) ++ [n_rf (cc 3) q5 2 (fun _ => none)]) ++ w6) ++ w7) ++ [n_ar cc q8 8]) ++ [n_ar cc q9 8]) ++ [n_ar cc q10 8])) := hD
  refine lv_aload_n hx hb (k := 0) (by decide +kernel) rfl (lv_at hl 0 rfl) ?_
  refine lv_bipush (v := 8) hx hb (n := 8) (by decide +kernel) (by decide +kernel) ?_
  refine va_newa (atype := .int) (ty := .int) (N' := 8) (a0 := (8, .inl (fun _ => 0))) hx hb (hts _ wi_6) rfl hK hP hD hS hA (fun _ => rfl) (by decide) (by decide) (by decide) (Nat.le_of_ble_eq_true rfl) (Nat.le_of_ble_eq_true rfl) (by decide +kernel) (fun q11 cA H hK1 hP hD hS => ?_)
  have ec := n_c0 hK1
  subst ec
  clear hK1
  have hP : va_P D vwCl ((h0, .inr (6, [.ref q1, .ref q2, .ref q3, .ref q4, .ref q5, .ref q6, .int 0, .int 0, .ref q7, .ref q8, .ref q9, .ref q10, .null])) :: (((((((((((([] : va_W) ++ [n_rf (cc 2) q1 8 (fun _ => none)]) ++ w2) ++ w3) ++ w4) ++ [n_rf (cc 3) q5 2 (fun _ => none)]) ++ w6) ++ w7) ++ [n_ar cc q8 8]) ++ [n_ar cc q9 8]) ++ [n_ar cc q10 8]) ++ [n_ar cc q11 8])) H := hP
  have hD : va_D A ((h0, .inr (6, [.ref q1, .ref q2, .ref q3, .ref q4, .ref q5, .ref q6, .int 0, .int 0, .ref q7, .ref q8, .ref q9, .ref q10, .null])) :: (((((((((((([] : va_W) ++ [n_rf (cc 2) q1 8 (fun _ => none)]) ++ w2) ++ w3) ++ w4) ++ [n_rf (cc 3) q5 2 (fun _ => none)]) ++ w6) ++ w7) ++ [n_ar cc q8 8]) ++ [n_ar cc q9 8]) ++ [n_ar cc q10 8]) ++ [n_ar cc q11 8])) := hD
  refine va_putF (D := D) (ci := 6) (v := .ref q11) (ty := tyX6 12) (C := RX6) (T := TX6) (N := 13) hx hb hts in_6 tyX6 tyX6_ok nmX6 hown hK hP hD hS 0 rfl rfl 12 (by decide) (hts _ wi_89) (fun _ h9 => h9) rfl hin rfl (by decide +kernel) rfl rfl (Nat.le_of_ble_eq_true rfl) (by decide +kernel) (fun H locs hP hD hS => ?_)
  have hP : va_P D vwCl ((h0, .inr (6, [.ref q1, .ref q2, .ref q3, .ref q4, .ref q5, .ref q6, .int 0, .int 0, .ref q7, .ref q8, .ref q9, .ref q10, .ref q11])) :: (((((((((((([] : va_W) ++ [n_rf (cc 2) q1 8 (fun _ => none)]) ++ w2) ++ w3) ++ w4) ++ [n_rf (cc 3) q5 2 (fun _ => none)]) ++ w6) ++ w7) ++ [n_ar cc q8 8]) ++ [n_ar cc q9 8]) ++ [n_ar cc q10 8]) ++ [n_ar cc q11 8])) H := hP
  have hD : va_D A ((h0, .inr (6, [.ref q1, .ref q2, .ref q3, .ref q4, .ref q5, .ref q6, .int 0, .int 0, .ref q7, .ref q8, .ref q9, .ref q10, .ref q11])) :: (((((((((((([] : va_W) ++ [n_rf (cc 2) q1 8 (fun _ => none)]) ++ w2) ++ w3) ++ w4) ++ [n_rf (cc 3) q5 2 (fun _ => none)]) ++ w6) ++ w7) ++ [n_ar cc q8 8]) ++ [n_ar cc q9 8]) ++ [n_ar cc q10 8]) ++ [n_ar cc q11 8])) := hD
  have L0 : ([] : va_W).length = 0 := rfl
  have E0 : ([n_rf (cc 2) q1 8 (fun _ => none)] : va_W).length = 1 := rfl
  have L1 : (([] : va_W) ++ [n_rf (cc 2) q1 8 (fun _ => none)]).length = 1 := by rw [List.length_append, L0, E0]
  have E1 : (w2 : va_W).length = 6 := hw2.1
  have L2 : ((([] : va_W) ++ [n_rf (cc 2) q1 8 (fun _ => none)]) ++ w2).length = 7 := by rw [List.length_append, L1, E1]
  have E2 : (w3 : va_W).length = 4 := (n_s4_a hw3).2
  have L3 : (((([] : va_W) ++ [n_rf (cc 2) q1 8 (fun _ => none)]) ++ w2) ++ w3).length = 11 := by rw [List.length_append, L2, E2]
  have E3 : (w4 : va_W).length = 98 := hw4.1
  have L4 : ((((([] : va_W) ++ [n_rf (cc 2) q1 8 (fun _ => none)]) ++ w2) ++ w3) ++ w4).length = 109 := by rw [List.length_append, L3, E3]
  have E4 : ([n_rf (cc 3) q5 2 (fun _ => none)] : va_W).length = 1 := rfl
  have L5 : (((((([] : va_W) ++ [n_rf (cc 2) q1 8 (fun _ => none)]) ++ w2) ++ w3) ++ w4) ++ [n_rf (cc 3) q5 2 (fun _ => none)]).length = 110 := by rw [List.length_append, L4, E4]
  have E5 : (w6 : va_W).length = 2 := (n_s1_a hw6).2
  have L6 : ((((((([] : va_W) ++ [n_rf (cc 2) q1 8 (fun _ => none)]) ++ w2) ++ w3) ++ w4) ++ [n_rf (cc 3) q5 2 (fun _ => none)]) ++ w6).length = 112 := by rw [List.length_append, L5, E5]
  have E6 : (w7 : va_W).length = 2 := (n_s2_a hw7).2
  have L7 : (((((((([] : va_W) ++ [n_rf (cc 2) q1 8 (fun _ => none)]) ++ w2) ++ w3) ++ w4) ++ [n_rf (cc 3) q5 2 (fun _ => none)]) ++ w6) ++ w7).length = 114 := by rw [List.length_append, L6, E6]
  have E7 : ([n_ar cc q8 8] : va_W).length = 1 := rfl
  have L8 : ((((((((([] : va_W) ++ [n_rf (cc 2) q1 8 (fun _ => none)]) ++ w2) ++ w3) ++ w4) ++ [n_rf (cc 3) q5 2 (fun _ => none)]) ++ w6) ++ w7) ++ [n_ar cc q8 8]).length = 115 := by rw [List.length_append, L7, E7]
  have E8 : ([n_ar cc q9 8] : va_W).length = 1 := rfl
  have L9 : (((((((((([] : va_W) ++ [n_rf (cc 2) q1 8 (fun _ => none)]) ++ w2) ++ w3) ++ w4) ++ [n_rf (cc 3) q5 2 (fun _ => none)]) ++ w6) ++ w7) ++ [n_ar cc q8 8]) ++ [n_ar cc q9 8]).length = 116 := by rw [List.length_append, L8, E8]
  have E9 : ([n_ar cc q10 8] : va_W).length = 1 := rfl
  have L10 : ((((((((((([] : va_W) ++ [n_rf (cc 2) q1 8 (fun _ => none)]) ++ w2) ++ w3) ++ w4) ++ [n_rf (cc 3) q5 2 (fun _ => none)]) ++ w6) ++ w7) ++ [n_ar cc q8 8]) ++ [n_ar cc q9 8]) ++ [n_ar cc q10 8]).length = 117 := by rw [List.length_append, L9, E9]
  have E10 : ([n_ar cc q11 8] : va_W).length = 1 := rfl
  have L11 : (((((((((((([] : va_W) ++ [n_rf (cc 2) q1 8 (fun _ => none)]) ++ w2) ++ w3) ++ w4) ++ [n_rf (cc 3) q5 2 (fun _ => none)]) ++ w6) ++ w7) ++ [n_ar cc q8 8]) ++ [n_ar cc q9 8]) ++ [n_ar cc q10 8]) ++ [n_ar cc q11 8]).length = 118 := by rw [List.length_append, L10, E10]
  have hB : n_b6 cc ((h0, .inr (6, [.ref q1, .ref q2, .ref q3, .ref q4, .ref q5, .ref q6, .int 0, .int 0, .ref q7, .ref q8, .ref q9, .ref q10, .ref q11])) :: (((((((((((([] : va_W) ++ [n_rf (cc 2) q1 8 (fun _ => none)]) ++ w2) ++ w3) ++ w4) ++ [n_rf (cc 3) q5 2 (fun _ => none)]) ++ w6) ++ w7) ++ [n_ar cc q8 8]) ++ [n_ar cc q9 8]) ++ [n_ar cc q10 8]) ++ [n_ar cc q11 8])) h0 q1 q2 q3 q4 q5 q6 q7 q8 q9 q10 q11 (fun _ => none) (fun _ => none) := ⟨rfl, ((n_wT (n_wT (n_wT (n_wT (n_wT (n_wT (n_wT (n_wT (n_wT (n_wT (n_wT (n_wR (len := 1) L0) n_wL) n_wL) n_wL) n_wL) n_wL) n_wL) n_wL) n_wL) n_wL) n_wL) n_wC) 0 _ (by decide) rfl), n_a5_w hw2.2 (n_wT (n_wT (n_wT (n_wT (n_wT (n_wT (n_wT (n_wT (n_wT (n_wT (n_wR (len := 6) L1) n_wL) n_wL) n_wL) n_wL) n_wL) n_wL) n_wL) n_wL) n_wL) n_wC), n_a4_w (n_s4_a hw3).1 (n_wT (n_wT (n_wT (n_wT (n_wT (n_wT (n_wT (n_wT (n_wT (n_wR (len := 4) L2) n_wL) n_wL) n_wL) n_wL) n_wL) n_wL) n_wL) n_wL) n_wC), n_a0_w hw4.2 (n_wT (n_wT (n_wT (n_wT (n_wT (n_wT (n_wT (n_wT (n_wR (len := 98) L3) n_wL) n_wL) n_wL) n_wL) n_wL) n_wL) n_wL) n_wC), ((n_wT (n_wT (n_wT (n_wT (n_wT (n_wT (n_wT (n_wR (len := 1) L4) n_wL) n_wL) n_wL) n_wL) n_wL) n_wL) n_wC) 0 _ (by decide) rfl), n_a1_w (n_s1_a hw6).1 (n_wT (n_wT (n_wT (n_wT (n_wT (n_wT (n_wR (len := 2) L5) n_wL) n_wL) n_wL) n_wL) n_wL) n_wC), n_a2_w (n_s2_a hw7).1 (n_wT (n_wT (n_wT (n_wT (n_wT (n_wR (len := 2) L6) n_wL) n_wL) n_wL) n_wL) n_wC), ((n_wT (n_wT (n_wT (n_wT (n_wR (len := 1) L7) n_wL) n_wL) n_wL) n_wC) 0 _ (by decide) rfl), ((n_wT (n_wT (n_wT (n_wR (len := 1) L8) n_wL) n_wL) n_wC) 0 _ (by decide) rfl), ((n_wT (n_wT (n_wR (len := 1) L9) n_wL) n_wC) 0 _ (by decide) rfl), ((n_wT (n_wR (len := 1) L10) n_wC) 0 _ (by decide) rfl)⟩
  have hLen : ((h0, .inr (6, [.ref q1, .ref q2, .ref q3, .ref q4, .ref q5, .ref q6, .int 0, .int 0, .ref q7, .ref q8, .ref q9, .ref q10, .ref q11])) :: (((((((((((([] : va_W) ++ [n_rf (cc 2) q1 8 (fun _ => none)]) ++ w2) ++ w3) ++ w4) ++ [n_rf (cc 3) q5 2 (fun _ => none)]) ++ w6) ++ w7) ++ [n_ar cc q8 8]) ++ [n_ar cc q9 8]) ++ [n_ar cc q10 8]) ++ [n_ar cc q11 8])).length = 119 := by rw [List.length_cons, L11]
  generalize (h0, .inr (6, [.ref q1, .ref q2, .ref q3, .ref q4, .ref q5, .ref q6, .int 0, .int 0, .ref q7, .ref q8, .ref q9, .ref q10, .ref q11])) :: (((((((((((([] : va_W) ++ [n_rf (cc 2) q1 8 (fun _ => none)]) ++ w2) ++ w3) ++ w4) ++ [n_rf (cc 3) q5 2 (fun _ => none)]) ++ w6) ++ w7) ++ [n_ar cc q8 8]) ++ [n_ar cc q9 8]) ++ [n_ar cc q10 8]) ++ [n_ar cc q11 8]) = w at hP hD hB hLen
  refine lv_iconst (v := 0) hx hb (n := 0) (by decide +kernel) (by decide +kernel) ?_
  refine lv_istore_n (k := 1) (lv' := [(1, .int 0), (0, .ref h0)]) hx hb (by decide +kernel) rfl hl (by decide) rfl (fun ls hl => ?_)
  refine n_rows_l (A := A) (Nat.le_of_ble_eq_true rfl) (Nat.le_of_ble_eq_true rfl) ⟨Nat.le_of_ble_eq_true rfl, Nat.le_of_ble_eq_true rfl⟩ hx hb hml hown hts hK hN hA (fun w f g H locs ls x hLen hB h3 hP hD hS hl => ?_) 8 0 w (fun _ => none) (fun _ => none) _ _ _ _ _ (by omega) rfl rfl hLen hB (fun j hj => absurd hj (Nat.not_lt_zero j)) hP hD hS (lv_sub hl [1, 0] rfl)
  refine lv_iconst (v := 0) hx hb (n := 0) (by decide +kernel) (by decide +kernel) ?_
  refine lv_istore_n (k := 1) (lv' := [(1, .int 0), (0, .ref h0)]) hx hb (by decide +kernel) rfl hl (by decide) rfl (fun ls hl => ?_)
  refine n_imgs_l (A := A) (Nat.le_of_ble_eq_true rfl) (Nat.le_of_ble_eq_true rfl) ⟨Nat.le_of_ble_eq_true rfl, Nat.le_of_ble_eq_true rfl⟩ hx hb hml hown hts hK hN hA (fun w f g H locs ls x hLen hB h3 h4 hP hD hS hl => ?_) 2 0 w f g _ _ _ _ _ (by omega) rfl rfl hLen hB h3 (fun j hj => absurd hj (Nat.not_lt_zero j)) hP hD hS (lv_sub hl [1, 0] rfl)
  exact W.vret (hlocks := hlocks) hx hb hr (fun t ht hW => ⟨⟨w, rfl, ⟨hLen, _, _, _, _, _, _, _, _, _, _, _, f, g, hB, h3, h4⟩, by rw [ht]; exact hP, hD⟩, hS.F ht⟩) hS.2.2 (by decide +kernel)
