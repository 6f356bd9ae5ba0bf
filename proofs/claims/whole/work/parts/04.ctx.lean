/-! 04.ctx: what is known at a method's start, and of the methods called -/
def pt_tab (i j : Nat) : Int32 := (([[-1, 0, 1, 1, 0, 4], [10, 11, 12, 0, 13, 14], [20, 21, 24, 22, 23, 0]] : List (List Int32)).getD i []).getD j 0
def pt_sn (i : Nat) : String := (["NEAREST", "SIZE_BODIES", "MARK_BODIES"] : List String).getD i ""
def pt_ki (i : Nat) : Nat := ([50, 64, 95, 97, 99, 101, 103] : List Nat).getD i 0
def pt_tx (i : Nat) : String := (["wall", "reader", "plain", "child", "wax", "fever", "scholar"] : List String).getD i ""
def pt_len : List Nat := [4, 6, 5, 5, 3, 5, 7]
def pt_byt : List (List Int32) := [[119, 97, 108, 108], [114, 101, 97, 100, 101, 114], [112, 108, 97, 105, 110], [99, 104, 105, 108, 100], [119, 97, 120], [102, 101, 118, 101, 114], [115, 99, 104, 111, 108, 97, 114]]
def pt_ty (G : pt_G) : List (ClassId × FieldType) := [(gC G 0, .int), (gC G 1, .boolean), (gC G 2, .object RX3), (gC G 3, .object RX4)]
def pt_nM : List (String × Nat × MethodName × String) := [(RX4, 41, yX6_isFlavour, RX6), (RX4, 44, yX6_fadesByDay, RX6)]
def pt_nF : List (String × Nat × String × String × String × String) := [(RX1, 35, RX6, "SIZE_BODIES", "[I", RX6), (RX1, 38, RX6, "MARK_BODIES", "[I", RX6), (RX1, 41, RX6, "NEAREST", "[I", RX6)]
def pt_St (G : pt_G) (U : State) (H : Heap) : Prop :=
  (∀ i : Nat, i < 3 → va_Z RX6 (pt_sn i) "[I" (.ref (gT G i)) (pt_A G) U H ∧ va_T .int (gT G i) 6 (fun j => .int (pt_tab i j)) (pt_A G) U H) ∧
  va_Z RJ0 "COMPACT_STRINGS" "Z" (.int 1) (pt_A G) U H ∧
  va_Z RJ3 "SIOOBE_FORMATTER" "Ljava/util/function/BiFunction;" (gF G) (pt_A G) U H ∧
  vk_S 7 pt_len pt_byt (gK G) (gV G) (pt_A G) U H ∧
  (∀ i : Nat, i < 7 → vk_R RX5 (pt_ki i) (pt_tx i) (gK G i) U) ∧
  (∀ q ∈ pt_nM, va_Nw (.methodLinkNest q.1 q.2.1 q.2.2.1 q.2.2.2) U) ∧
  (∀ q ∈ pt_nF, va_Nw (.fieldLinkNest q.1 q.2.1 q.2.2.1 q.2.2.2.1 q.2.2.2.2.1 q.2.2.2.2.2) U) ∧
  va_X (gX G).1 (gX G).2.1 (gX G).2.2 U H ∧ ¬ pt_A G (gX G).1
theorem pt_St.use {G : pt_G} {s U : State} {H : Heap} {locs : List Loc} (h : pt_St G s s.heap) (hW : s.WarmedH U.vm) (hS : va_S (pt_A G) s.heap H locs) : pt_St G U H := by
  obtain ⟨h1, h2, h3, h4, h5, h6, h7, h8, h9⟩ := h
  have hv := hW.alike
  have hk : ∀ a : Nat, a < s.heap.size → ¬ pt_A G a → H[a]? = s.heap[a]? := hS.2.1
  refine ⟨fun i hi => ⟨va_Z.moved hv ((h1 i hi).1.kept hk), va_T.moved hv ((h1 i hi).2.kept hk)⟩, va_Z.moved hv (h2.kept hk), va_Z.moved hv (h3.kept hk), vk_S.moved hv (h4.kept hk), fun i hi => vk_R.warm hW (h5 i hi), fun q hq => va_Nw.warmM hW (h6 q hq), fun q hq => va_Nw.warmF hW (h7 q hq), va_X.moved hv (h8.kept ?_), h9⟩
  obtain ⟨scr, g1, -⟩ := h8
  exact hk _ (Array.getElem?_eq_some_iff.mp g1).1 h9
theorem pt_St.calling {G : pt_G} {U : State} (g : JFrame) (mk : MethodId) (a : Array Value) (h : pt_St G U U.heap) : pt_St G (U.calling g mk a) (U.calling g mk a).heap := by
  obtain ⟨h1, h2, h3, h4, h5, h6, h7, h8, h9⟩ := h
  have hv : U.vm.Alike (U.calling g mk a).vm := Vm.Alike.refl U.vm
  exact ⟨fun i hi => ⟨va_Z.moved hv (h1 i hi).1, va_T.moved hv (h1 i hi).2⟩, va_Z.moved hv h2, va_Z.moved hv h3, vk_S.moved hv h4, fun i hi => vk_R.same rfl (h5 i hi), fun q hq => va_Nw.same rfl rfl (h6 q hq), fun q hq => va_Nw.same rfl rfl (h7 q hq), va_X.moved hv h8, h9⟩
def pt_Pre (G : pt_G) (mm : pt_M) (U : State) : Prop := va_P (gD G) vwCl (pt_W G mm) U.heap ∧ va_K (gD G) vwCl (pt_ty G) U ∧ pt_St G U U.heap
theorem pt_blind (G : pt_G) (av : List Value) (mm : pt_M) : FrameBlind (va_Pc av (pt_Pre G mm)) := fun a U g mk q => ⟨q.1, q.2.1, va_K.moved (u := U) (U := U.calling g mk a) (Vm.Alike.refl U.vm) q.2.2.1, q.2.2.2.calling g mk a⟩
def pt_Post (G : pt_G) (Q : pt_Q) : Array Value → State → Outcome → State → Prop := fun _ s0 oc t =>
  (∃ (r : Option pt_V) (mm : pt_M), oc = .returned (r.map (pt_cv G)) ∧ Q r mm ∧ (∀ v, r = some v → pt_ok v) ∧ va_P (gD G) vwCl (pt_W G mm) t.heap) ∧ va_F (pt_A G) s0 t
def pt_rm (d : Nat) : Room := { frames := d, cells := 0, slots := 0, locals := 60 * d }
def pt_ws (r : pt_R) : List Cond := Cond.code r.1 r.2.1 r.2.2.1 r.2.2.2 :: pt_tbl
/-- the methods that C tells of, as the machine runs them, with d frames of room -/
def pt_IH (G : pt_G) (l : Launch) (d : Nat) (C : pt_C) : Prop := ∀ (k : Nat) (r : pt_R) (as : List pt_V) (mm : pt_M) (Q : pt_Q), pt_mt k = some r → (∀ v ∈ as, pt_ok v) → C k as mm Q →
  Met l r.1 (pt_ws r) (pt_rm d) (va_Pc (as.map (pt_cv G)) (pt_Pre G mm)) (pt_Post G Q) 0 0 (pt_A G)
def pt_X (G : pt_G) (p : Program) (s : State) (m : MethodId) (args : Array Value) (c : Code) (cc : ByteArray) (own : String) (nL : Nat) : Prop :=
  p.tables.exec = Jvm.exec ∧ c.code = cc ∧ c.maxLocals = nL ∧ s.vm.findClass own = some m.cls ∧ (∀ w ∈ pt_tbl, w.before args s = true) ∧ va_K (gD G) vwCl (pt_ty G) s ∧ pt_J G ∧ pt_St G s s.heap
def pt_RM (R : Room) (d cells slots : Nat) : Prop := d + 1 ≤ R.frames ∧ 60 * d + 60 ≤ R.locals ∧ cells ≤ R.cells ∧ slots ≤ R.slots
/-- the machine, now at pc, comes to its end -/
def pt_SK (G : pt_G) (p : Program) (l : Launch) (e : Env) (R : Room) (s : State) (m : MethodId) (args : Array Value) (below : List Frame) (meth : Method) (c : Code) (nL cells slots : Nat) (Qw : State → Prop) : pt_K := fun pc L S mm =>
  (∀ v ∈ S, pt_ok v) → (∀ (i : Nat) (v : pt_V), pt_get L i = some v → pt_ok v) → L.length = nL → ∀ (ls : Array Slot) (H : Heap) (locs : List Loc), lv_has ls nL (pt_lv G L) → va_P (gD G) vwCl (pt_W G mm) H → va_S (pt_A G) s.heap H locs → W p l e R s m args below meth c H locs cells slots Qw (F0 m pc ls (S.map (pt_cv G)))
def pt_RT (cc : ByteArray) (rt : Option FieldType) (pc : Nat) : Option pt_V → Prop
  | none => decode cc pc = .ok (.return_, 1) ∧ rt = none
  | some (.inl x) => decode cc pc = .ok (.ireturn, 1) ∧ ∃ ty, rt = some ty ∧ narrow ty (.int x) = .int x
  | some (.inr (.inl _)) => decode cc pc = .ok (.lreturn, 1) ∧ rt = some .long
  | some (.inr (.inr _)) => False
/-- an instruction's row: what its op asks is enough -/
def pt_OK (cc : ByteArray) (own : String) (nL : Nat) (rt : Option FieldType) (pc : Nat) (o : pt_O) : Prop :=
  ∀ (G : pt_G) (p : Program) (l : Launch) (e : Env) (R : Room) (s : State) (m : MethodId) (args : Array Value) (below : List Frame) (meth : Method) (c : Code) (cells slots : Nat) (Qw : State → Prop) (d : Nat) (C : pt_C), pt_X G p s m args c cc own nL → pt_IH G l d C → pt_RM R d cells slots →
  ∀ (K : pt_K) (Q : pt_Q), (∀ pc L S mm, K pc L S mm → pt_SK G p l e R s m args below meth c nL cells slots Qw pc L S mm) →
  (∀ (pc : Nat) (ls : Array Slot) (H : Heap) (locs : List Loc) (r : Option pt_V) (mm : pt_M), Q r mm → pt_RT cc rt pc r → va_P (gD G) vwCl (pt_W G mm) H → va_S (pt_A G) s.heap H locs → W p l e R s m args below meth c H locs cells slots Qw (F0 m pc ls ((r.map (pt_cv G)).toList))) →
  ∀ L S mm, o C L S mm K Q → pt_SK G p l e R s m args below meth c nL cells slots Qw pc L S mm
theorem pt_D {G : pt_G} (J : pt_J G) (mm : pt_M) : va_D (pt_A G) (pt_W G mm) := by
  have key : ∀ (k : Nat) (q : Nat × va_E), (pt_W G mm)[k]? = some q → k < 158 ∧ q.1 = gA G k := by
    intro k q hk
    have hl : k < 158 := by
      have := (List.getElem?_eq_some_iff.mp hk).1
      unfold pt_W at this
      rwa [List.length_map, List.length_range] at this
    unfold pt_W at hk
    rw [List.getElem?_map, List.getElem?_range hl] at hk
    cases hk
    exact ⟨hl, rfl⟩
  refine ⟨fun i j x y hi hj hxy => ?_, fun k q hk => ?_⟩
  · obtain ⟨h1, h2⟩ := key i x hi
    obtain ⟨h3, h4⟩ := key j y hj
    exact J.1 i j h1 h3 (by rw [← h2, ← h4]; exact hxy)
  · obtain ⟨h1, h2⟩ := key k q hk
    rw [h2]
    exact J.2.1 k h1
theorem pt_okS_tl {v : pt_V} {S : pt_S} (h : ∀ w ∈ v :: S, pt_ok w) : ∀ w ∈ S, pt_ok w := fun w hw => h w (List.mem_cons_of_mem _ hw)
theorem pt_okS_hd {v : pt_V} {S : pt_S} (h : ∀ w ∈ v :: S, pt_ok w) : pt_ok v := h v List.mem_cons_self
theorem pt_okS_cons {v : pt_V} {S : pt_S} (h1 : pt_ok v) (h2 : ∀ w ∈ S, pt_ok w) : ∀ w ∈ v :: S, pt_ok w := fun w hw => (List.mem_cons.mp hw).elim (fun e => e ▸ h1) (h2 w)
theorem pt_okI (x : Int32) : pt_ok (zI x) := trivial
theorem pt_okL (x : Int64) : pt_ok (zL x) := trivial
section PTC
variable {G : pt_G} {p : Program} {l : Launch} {e : Env} {R : Room} {s : State} {m : MethodId} {args : Array Value} {below : List Frame} {meth : Method} {c : Code} {H : Heap} {locs : List Loc} {cells slots : Nat} {Qw : State → Prop}
/-- behind a call -/
theorem pt_back {pc : Nat} {ls : Array Slot} {rest st0 : List Value} {a : Array Value} {Q : pt_Q} (hr : va_Run p l e R s m args below meth c H locs cells slots 0 0 (F0 m pc ls st0) rest (pt_Post G Q a) (pt_A G)) (hS : va_S (pt_A G) s.heap H locs)
    (kk : ∀ (r : Option pt_V) (mm : pt_M) (H1 : Heap) (locs1 : List Loc), Q r mm → (∀ v, r = some v → pt_ok v) → va_P (gD G) vwCl (pt_W G mm) H1 → va_S (pt_A G) s.heap H1 locs1 → W p l e R s m args below meth c H1 locs1 cells slots Qw (F0 m (pc + 3) ls ((r.map (pt_cv G)).toList ++ rest))) : W p l e R s m args below meth c H locs cells slots Qw (F0 m pc ls st0) := by
  intro T hT X
  obtain ⟨v, st₀, t, T', L, h0, X', hL, e1, e2, ⟨⟨r, mm, hv, hq, ho, hp⟩, hz, hk⟩, stp⟩ := hr T hT X
  cases hv
  rw [h0] at hz hk
  obtain ⟨t2, a1, b1⟩ := kk r mm T'.heap (locs ++ L) hq ho (by rw [e1]; exact hp)
    ⟨Nat.le_trans hS.1 (by rw [e1]; exact hz), fun q h1 h2 => by rw [e1, hk q (Nat.lt_of_lt_of_le h1 hS.1) h2]; exact hS.2.1 q h1 h2, fun q hq => by
      rcases List.mem_append.mp hq with h | h
      · exact hS.2.2 q h
      · exact hL q h⟩ T' rfl X'
  exact ⟨t2, stp t2 a1, b1⟩
end PTC
