/-! 05.ops: the instructions as steps of the small machine, each with its row: the real machine does so too -/
def o_v (v : pt_V) (nx : Nat) : pt_O := fun _ L S m K _ => K nx L (v :: S) m
def o_lI (i nx : Nat) : pt_O := fun _ L S m K _ => match pt_get L i with | some (.inl x) => K nx L (.inl x :: S) m | _ => False
def o_lL (i nx : Nat) : pt_O := fun _ L S m K _ => match pt_get L i with | some (.inr (.inl x)) => K nx L (.inr (.inl x) :: S) m | _ => False
def o_lR (i nx : Nat) : pt_O := fun _ L S m K _ => match pt_get L i with | some (.inr (.inr (t, o))) => cond (Nat.beq t 22) False (K nx L (.inr (.inr (t, o)) :: S) m) | _ => False
def o_sI (i nx : Nat) : pt_O := fun _ L S m K _ => match S with | .inl x :: S' => K nx (pt_put L i (.inl x)) S' m | _ => False
def o_sL (i nx : Nat) : pt_O := fun _ L S m K _ => match S with | .inr (.inl x) :: S' => K nx (pt_putL L i (.inr (.inl x))) S' m | _ => False
def o_sR (i nx : Nat) : pt_O := fun _ L S m K _ => match S with | .inr (.inr (t, o)) :: S' => cond (Nat.beq t 22) False (K nx (pt_put L i (.inr (.inr (t, o)))) S' m) | _ => False
def o_inc (i : Nat) (d : Int32) (nx : Nat) : pt_O := fun _ L S m K _ => match pt_get L i with | some (.inl x) => K nx (pt_put L i (.inl (x + d))) S m | _ => False
def o_b2 (f : Int32 → Int32 → Int32) (nx : Nat) : pt_O := fun _ L S m K _ => match S with | .inl y :: .inl x :: S' => K nx L (.inl (f x y) :: S') m | _ => False
def o_bd (f : Int32 → Int32 → Int32) (nx : Nat) : pt_O := fun _ L S m K _ => match S with | .inl y :: .inl x :: S' => ¬ y = 0 ∧ K nx L (.inl (f x y) :: S') m | _ => False
def o_u1 (f : Int32 → Int32) (nx : Nat) : pt_O := fun _ L S m K _ => match S with | .inl x :: S' => K nx L (.inl (f x) :: S') m | _ => False
def o_i2l (nx : Nat) : pt_O := fun _ L S m K _ => match S with | .inl x :: S' => K nx L (.inr (.inl x.toInt64) :: S') m | _ => False
def o_l2i (nx : Nat) : pt_O := fun _ L S m K _ => match S with | .inr (.inl x) :: S' => K nx L (.inl x.toInt32 :: S') m | _ => False
def o_l2 (f : Int64 → Int64 → Int64) (nx : Nat) : pt_O := fun _ L S m K _ => match S with | .inr (.inl y) :: .inr (.inl x) :: S' => K nx L (.inr (.inl (f x y)) :: S') m | _ => False
def o_lsh (f : Int64 → Int32 → Int64) (nx : Nat) : pt_O := fun _ L S m K _ => match S with | .inl y :: .inr (.inl x) :: S' => K nx L (.inr (.inl (f x y)) :: S') m | _ => False
def o_lcmp (nx : Nat) : pt_O := fun _ L S m K _ => match S with | .inr (.inl y) :: .inr (.inl x) :: S' => K nx L (.inl (lg_cmp x y) :: S') m | _ => False
def o_if (q : Int32 → Prop) (tg nx : Nat) : pt_O := fun _ L S m K _ => match S with | .inl x :: S' => (q x → K tg L S' m) ∧ (¬ q x → K nx L S' m) | _ => False
def o_if2 (q : Int32 → Int32 → Prop) (tg nx : Nat) : pt_O := fun _ L S m K _ => match S with | .inl y :: .inl x :: S' => (q x y → K tg L S' m) ∧ (¬ q x y → K nx L S' m) | _ => False
def o_go (tg : Nat) : pt_O := fun _ L S m K _ => K tg L S m
def pt_c1 : pt_V → Bool | .inr (.inl _) => false | _ => true
def o_dup (nx : Nat) : pt_O := fun _ L S m K _ => match S with | v :: S' => cond (pt_c1 v) (K nx L (v :: v :: S') m) False | _ => False
def o_dup2 (nx : Nat) : pt_O := fun _ L S m K _ => match S with | v :: w :: S' => cond (pt_c1 v && pt_c1 w) (K nx L (v :: w :: v :: w :: S') m) False | _ => False
def o_dx1 (nx : Nat) : pt_O := fun _ L S m K _ => match S with | v :: w :: S' => cond (pt_c1 v && pt_c1 w) (K nx L (v :: w :: v :: S') m) False | _ => False
def o_pop (nx : Nat) : pt_O := fun _ L S m K _ => match S with | v :: S' => cond (pt_c1 v) (K nx L S' m) False | _ => False
def pt_gv (t o k : Nat) (m : pt_M) : pt_V := match pt_fr t k with | some (t', d) => .inr (.inr (t', o + d)) | none => .inl (m o k)
def o_gf (t k nx : Nat) : pt_O := fun _ L S m K _ => match S with | .inr (.inr (t', o)) :: S' => cond (Nat.beq t' t) (K nx L (pt_gv t o k m :: S') m) False | _ => False
def o_pf (t k nx : Nat) : pt_O := fun _ L S m K _ => match S with | .inl x :: .inr (.inr (t', o)) :: S' => cond (Nat.beq t' t) (K nx L S' (st m o k x)) False | _ => False
def o_pz (t k nx : Nat) : pt_O := fun _ L S m K _ => match S with | .inl x :: .inr (.inr (t', o)) :: S' => cond (Nat.beq t' t) ((x = 0 ∨ x = 1) ∧ K nx L S' (st m o k x)) False | _ => False
/-- a text's own fields -/
def o_tv (nx : Nat) : pt_O := fun _ L S m K _ => match S with | .inr (.inr (t, o)) :: S' => cond (Nat.beq t 12) (K nx L (.inr (.inr (13, o)) :: S') m) False | _ => False
def o_tc (nx : Nat) : pt_O := fun _ L S m K _ => match S with | .inr (.inr (t, _)) :: S' => cond (Nat.beq t 12) (K nx L (.inl 0 :: S') m) False | _ => False
/-- places of arrays: of ints in the world, of a static table, of the script -/
def o_ald (nx : Nat) : pt_O := fun _ L S m K _ => match S with
  | .inl i :: .inr (.inr (t, o)) :: S' => cond (Nat.ble 1000 t) (∃ j, i = nI j ∧ j < t - 1000 ∧ K nx L (.inl (m o j) :: S') m) (cond (Nat.beq t 20) (∃ j, i = nI j ∧ j < 6 ∧ K nx L (.inl (pt_tab o j) :: S') m) False)
  | _ => False
def o_xld (xl : Nat) (xs : Nat → Int32) (nx : Nat) : pt_O := fun _ L S m K _ => match S with
  | .inl i :: .inr (.inr (t, _)) :: S' => cond (Nat.beq t 21) (∃ j, i = nI j ∧ j < xl ∧ K nx L (.inl (xs j) :: S') m) False
  | _ => False
def o_ast (nx : Nat) : pt_O := fun _ L S m K _ => match S with
  | .inl x :: .inl i :: .inr (.inr (t, o)) :: S' => cond (Nat.ble 1000 t) (∃ j, i = nI j ∧ j < t - 1000 ∧ K nx L S' (st m o j x)) False
  | _ => False
def o_zld (nx : Nat) : pt_O := fun _ L S m K _ => match S with
  | .inl i :: .inr (.inr (t, o)) :: S' => cond (Nat.beq t 11) (∃ j, i = nI j ∧ j < 2 ∧ K nx L (.inl (m o j) :: S') m) (cond (Nat.beq t 13) (∃ j, i = nI j ∧ j < pt_len.getD o 0 ∧ K nx L (.inl ((pt_byt.getD o []).getD j 0) :: S') m) False)
  | _ => False
def o_zst (nx : Nat) : pt_O := fun _ L S m K _ => match S with
  | .inl x :: .inl i :: .inr (.inr (t, o)) :: S' => cond (Nat.beq t 11) (∃ j, i = nI j ∧ j < 2 ∧ (x = 0 ∨ x = 1) ∧ K nx L S' (st m o j x)) False
  | _ => False
def o_len (nx : Nat) : pt_O := fun _ L S m K _ => match S with
  | .inr (.inr (t, o)) :: S' => cond (Nat.ble 1000 t) (K nx L (.inl (nI (t - 1000)) :: S') m) (cond (Nat.beq t 13) (K nx L (.inl (nI (pt_len.getD o 0)) :: S') m) (cond (Nat.beq t 20) (K nx L (.inl 6 :: S') m) False))
  | _ => False
def o_xlen (xl : Nat) (nx : Nat) : pt_O := fun _ L S m K _ => match S with
  | .inr (.inr (t, _)) :: S' => cond (Nat.beq t 21) (K nx L (.inl (nI xl) :: S') m) False
  | _ => False
def o_rld (nx : Nat) : pt_O := fun _ L S m K _ => match S with
  | .inl i :: .inr (.inr (t, o)) :: S' => cond (Nat.beq t 8) (∃ j, i = nI j ∧ j < 8 ∧ K nx L (.inr (.inr (3, o + 1 + 2 * j)) :: S') m)
      (cond (Nat.beq t 9) (∃ j, i = nI j ∧ j < 24 ∧ K nx L (.inr (.inr (4, o + 1 + 4 * j)) :: S') m) (cond (Nat.beq t 10) (∃ j, i = nI j ∧ j < 2 ∧ K nx L (.inr (.inr (4, o + 1 + 4 * j)) :: S') m) False))
  | _ => False
def pt_sz : pt_S → Nat
  | [] => 0
  | .inr (.inl _) :: S => pt_sz S + 2
  | _ :: S => pt_sz S + 1
def o_cpy (nx : Nat) : pt_O := fun _ L S m K _ => match S with
  | .inl n :: .inl dp :: .inr (.inr (t2, o2)) :: .inl sp :: .inr (.inr (t1, o1)) :: S' => cond (Nat.ble 1000 t1 && Nat.ble 1000 t2 && Nat.ble (pt_sz S') 8)
      (∃ a b k, sp = nI a ∧ dp = nI b ∧ n = nI k ∧ a + k ≤ t1 - 1000 ∧ b + k ≤ t2 - 1000 ∧ K nx L S' (cpm m o1 a o2 b k)) False
  | _ => False
def pt_pop : Nat → pt_S → List pt_V → Option (List pt_V × pt_S)
  | 0, S, a => some (a, S)
  | _ + 1, [], _ => none
  | n + 1, v :: S, a => pt_pop n S (v :: a)
def pt_res (r : Option pt_V) (S : pt_S) : pt_S := match r with | none => S | some v => v :: S
def o_cV (k n t nx : Nat) : pt_O := fun C L S m K _ => match pt_pop (n + 1) S [] with
  | some (.inr (.inr (t', o)) :: as, S') => cond (Nat.beq t' t && Nat.ble (pt_sz S') 8) (C k (.inr (.inr (t', o)) :: as) m (fun r m' => K nx L (pt_res r S') m')) False
  | _ => False
def o_cS (k n nx : Nat) : pt_O := fun C L S m K _ => match pt_pop n S [] with
  | some (as, S') => cond (Nat.ble (pt_sz S') 8) (C k as m (fun r m' => K nx L (pt_res r S') m')) False
  | _ => False
def o_ret : pt_O := fun _ _ S m _ Q => match S with | [] => Q none m | _ => False
def o_rI : pt_O := fun _ _ S m _ Q => match S with | [.inl x] => Q (some (.inl x)) m | _ => False
def o_rZ (ty : FieldType) : pt_O := fun _ _ S m _ Q => match S with | [.inl x] => narrow ty (.int x) = .int x ∧ Q (some (.inl x)) m | _ => False
def o_rL : pt_O := fun _ _ S m _ Q => match S with | [.inr (.inl x)] => Q (some (.inr (.inl x))) m | _ => False
def pt_tsw (lo : Int) (d : Nat) (ts : List Nat) (x : Int32) : Nat := if x.toInt < lo then d else ts.getD (x.toInt - lo).toNat d
def o_tsw (lo : Int) (d : Nat) (ts : List Nat) : pt_O := fun _ L S m K _ => match S with | .inl x :: S' => K (pt_tsw lo d ts x) L S' m | _ => False
def pt_lsw (d : Nat) : List (Int × Nat) → Int → Nat
  | [], _ => d
  | (a, t) :: l, x => if x = a then t else pt_lsw d l x
def o_lsw (d : Nat) (ts : List (Int × Nat)) : pt_O := fun _ L S m K _ => match S with | .inl x :: S' => K (pt_lsw d ts x.toInt) L S' m | _ => False
/-! what the ops ask, taken apart -/
theorem cond_t {b : Bool} {A : Prop} (h : cond b A False) : b = true ∧ A := by
  cases b with
  | true => exact ⟨rfl, h⟩
  | false => exact h.elim
theorem cond_f {b : Bool} {A : Prop} (h : cond b False A) : b = false ∧ A := by
  cases b with
  | false => exact ⟨rfl, h⟩
  | true => exact h.elim
theorem cond_2 {b : Bool} {A B : Prop} (h : cond b A B) : (b = true ∧ A) ∨ (b = false ∧ B) := by
  cases b with
  | true => exact Or.inl ⟨rfl, h⟩
  | false => exact Or.inr ⟨rfl, h⟩
theorem beq_t {a b : Nat} (h : Nat.beq a b = true) : a = b := Nat.eq_of_beq_eq_true h
theorem pt_pop_spec : ∀ (n : Nat) (S : pt_S) (a as : List pt_V) (S' : pt_S), pt_pop n S a = some (as, S') → ∃ b, as = b ++ a ∧ S = b.reverse ++ S' ∧ b.length = n
  | 0, S, a, as, S', h => by
    cases h
    exact ⟨[], rfl, rfl, rfl⟩
  | n + 1, [], a, as, S', h => by cases h
  | n + 1, v :: S, a, as, S', h => by
    obtain ⟨b, h1, h2, h3⟩ := pt_pop_spec n S (v :: a) as S' h
    refine ⟨b ++ [v], by rw [h1]; simp, by rw [h2]; simp, by simp [h3]⟩
theorem pt_sz_cat {G : pt_G} (J : pt_J G) : ∀ (S : pt_S), ((S.map (pt_cv G)).map fun v => v.category).sum = pt_sz S
  | [] => rfl
  | .inl x :: S => by
    rw [List.map_cons, List.map_cons, List.sum_cons, pt_sz_cat J S]
    show 1 + _ = _ + 1
    omega
  | .inr (.inl x) :: S => by
    rw [List.map_cons, List.map_cons, List.sum_cons, pt_sz_cat J S]
    show 2 + _ = _ + 2
    omega
  | .inr (.inr (t, o)) :: S => by
    rw [List.map_cons, List.map_cons, List.sum_cons, pt_sz_cat J S, pt_cat1 J (v := zR t o) (by rintro ⟨x, h⟩; cases h)]
    show 1 + _ = _ + 1
    omega
theorem pt_c1_cat {G : pt_G} (J : pt_J G) {v : pt_V} (h : pt_c1 v = true) : (pt_cv G v).category = 1 := by
  refine pt_cat1 J ?_
  rintro ⟨x, rfl⟩
  cases h
def pt_subc (o k : Nat) : Bool := match pt_fr (pt_tags.getD o 0) k with | some (t', d) => decide (pt_tags[o + d]? = some t') | none => true
theorem pt_sub_at {o t k t' d : Nat} (h : pt_tags[o]? = some t) (hk : k < pt_N t) (hf : pt_fr t k = some (t', d)) : pt_tags[o + d]? = some t' := by
  have all : ∀ o, o < 158 → ∀ k, k < 29 → pt_subc o k = true := by decide +kernel
  have ho := pt_tag_lt h
  have e : pt_tags.getD o 0 = t := by rw [List.getD_eq_getElem?_getD, h]; rfl
  have hk2 : k < 29 := by
    have : ∀ t, pt_N t ≤ 29 := by
      intro t
      unfold pt_N
      rcases Nat.lt_or_ge t 8 with q | q
      · have : ∀ t, t < 8 → ([3, 2, 3, 4, 6, 9, 13, 29] : List Nat).getD t 0 ≤ 29 := by decide
        exact this t q
      · rw [List.getD_eq_getElem?_getD, List.getElem?_eq_none (by simpa using q)]
        exact Nat.zero_le _
    have := this t
    omega
  have := all o ho k hk2
  unfold pt_subc at this
  rw [e, hf] at this
  exact of_decide_eq_true this
theorem pt_rows_at {j : Nat} {o : Nat} (h : pt_tags[o]? = some 8) (hj : j < 8) : pt_tags[o + 1 + 2 * j]? = some 3 := by
  have all : ∀ o, o < 158 → pt_tags[o]? = some 8 → ∀ j, j < 8 → pt_tags[o + 1 + 2 * j]? = some 3 := by decide +kernel
  exact all o (pt_tag_lt h) h j hj
theorem pt_acts_at {j : Nat} {o : Nat} (h : pt_tags[o]? = some 9) (hj : j < 24) : pt_tags[o + 1 + 4 * j]? = some 4 := by
  have all : ∀ o, o < 158 → pt_tags[o]? = some 9 → ∀ j, j < 24 → pt_tags[o + 1 + 4 * j]? = some 4 := by decide +kernel
  exact all o (pt_tag_lt h) h j hj
theorem pt_imgs_at {j : Nat} {o : Nat} (h : pt_tags[o]? = some 10) (hj : j < 2) : pt_tags[o + 1 + 4 * j]? = some 4 := by
  have all : ∀ o, o < 158 → pt_tags[o]? = some 10 → ∀ j, j < 2 → pt_tags[o + 1 + 4 * j]? = some 4 := by decide +kernel
  exact all o (pt_tag_lt h) h j hj
theorem pt_okW {t o : Nat} (h : pt_tags[o]? = some t) : pt_ok (zR t o) := Or.inr (Or.inr (Or.inr (Or.inr (Or.inr h))))
