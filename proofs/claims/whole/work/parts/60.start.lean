/-! 60.start: the law from its entry -/
set_option maxHeartbeats 4000000 in
/-- from the loop's head: the small machine's run is the real one's -/
theorem n_run {p : Program} {e : Env} {s : State} {m : MethodId} {below : List Frame} {meth : Method} {c : Code} (l : Launch) {b L : Nat} {xs : Nat → Int32} (hL : L ≤ 3072) (C0 : lw_At p s m meth c b L xs) {G : pt_G} (J : pt_J G) (hX1 : (gX G).2.1 = L) (hX2 : (gX G).2.2 = xs) (hXb : (gX G).1 = b) (hO : gO G = s.heap.size) (hK : va_K (gD G) vwCl (pt_ty G) s) (hSt : pt_St G s s.heap) {H : Heap} {locs : List Loc} {ls : Array Slot} (hl : lv_has ls 4 [(0, .ref b), (1, .ref (gA G 0)), (2, .ref (gA G 143)), (3, .int 0)]) (hP : va_P (gD G) vwCl (pt_W G n_m0) H) (hS : va_S (pt_A G) s.heap H locs) : W p l e room_1 s m #[Value.ref b] below meth c H locs 600000 7302250 (lw_Z below #[Value.ref b] s) (F0 m 18 ls []) := by
  obtain ⟨hx, hb, hr, hml, hown, hts, hX, hbl, hlocks, hgv⟩ := id C0
  have htp : ∀ w ∈ pt_tbl, w.before #[Value.ref b] s = true := fun w hw => hts w (List.mem_filter.mp hw).1
  have X : pt_X G p s m #[Value.ref b] c cL_law RL 4 := ⟨hx, hb, hml, hown, htp, hK, J, hSt⟩
  have RM : pt_RM room_1 20 600000 7302250 := ⟨by decide, by decide, by decide, by decide⟩
  have hGo := law_loop (xl := L) (xs := xs) (Q := fun r _ => r = some (zI 1)) hL (fun _ => rfl) (L + 1) 0 n_m0 (by omega) (by omega) n_inv0
  rw [Go_eq] at hGo
  refine hGo (pt_SK G p l e room_1 s m #[Value.ref b] below meth c 4 600000 7302250 (lw_Z below #[Value.ref b] s)) (fun K pc L2 S mm o ho hKP hop => ?_) (fun v hv => by cases hv) (fun i v hv => ?_) rfl ls H locs ?_ hP hS
  · refine tLaw_ok L xs pc o ho G p l e room_1 s m #[Value.ref b] below meth c 600000 7302250 _ 20 (Sp 20) hX1 hX2 (by omega) X (pt_sound G J l 20) RM K _ hKP ?_ L2 S mm hop
    intro pc ls H locs r mm2 hq hrt hP2 hS2
    subst hq
    refine va_forget (fun q hq => ?_) ?_
    · have := hS2.2.2 q hq
      unfold pt_A at this
      rw [hO] at this
      exact this
    · exact lw_ret hx hb hr hlocks hrt.1
  · match i, hv with
    | 0, hv => cases hv; exact Or.inr (Or.inr (Or.inr (Or.inl rfl)))
    | 1, hv => cases hv; exact Or.inr (Or.inr (Or.inr (Or.inr (Or.inr (by decide +kernel)))))
    | 2, hv => cases hv; exact Or.inr (Or.inr (Or.inr (Or.inr (Or.inr (by decide +kernel)))))
    | 3, hv => cases hv; trivial
    | i + 4, hv => cases hv
  · have e : pt_lv G [some (zR 21 0), some (zR 6 0), some (zR 7 143), some (zI (nI 0))] = [(0, .ref (gX G).1), (1, .ref (gA G 0)), (2, .ref (gA G 143)), (3, .int 0)] := rfl
    rw [e, hXb]
    exact hl
set_option maxHeartbeats 4000000 in
/-- YOUR PART: from the entry, for every script, the law comes to its end with true -/
theorem whole_start {p : Program} {e : Env} {s : State} {m : MethodId} {below : List Frame} {meth : Method} {c : Code} (l : Launch) (hflags : l.flags = flags0) {b L : Nat} {xs : Nat → Int32} (hL : L ≤ 3072) (C0 : lw_At p s m meth c b L xs) : W p l e room_1 s m #[Value.ref b] below meth c s.heap [] 0 0 (lw_Z below #[Value.ref b] s) (entryFrame m ([Value.ref b] : List Value).toArray 4) := by
  obtain ⟨hx, hb, hr, hml, hown, hts, hX, hbl, hlocks, hgv⟩ := id C0
  have htp : ∀ w ∈ pt_tbl, w.before #[Value.ref b] s = true := fun w hw => hts w (List.mem_filter.mp hw).1
  have hA : ∀ q : Nat, s.heap.size ≤ q → (fun q : Nat => s.heap.size ≤ q) q := fun _ h => h
  obtain ⟨D, hKn⟩ := n_known hts
  obtain ⟨cc, hTy⟩ := n_types hts
  obtain ⟨gK, gV, gT, F, hF, hSt⟩ := n_static hts hgv hX hbl
  have hK : va_K D vwCl (n_ty cc) s := ⟨hKn, hTy⟩
  have hN : n_N s := n_nest hts
  have hS : va_S (fun q : Nat => s.heap.size ≤ q) s.heap s.heap [] := va_S.rf
  have hP : va_P D vwCl [] s.heap := fun k q h => by simp at h
  have hD : va_D (fun q : Nat => s.heap.size ≤ q) [] := ⟨fun i j p q h => by simp at h, fun k q h => by simp at h⟩
  have hl := lv_entry ([.ref b]) (n := 4) (Nat.le_of_ble_eq_true rfl)
  rw [lg_entry_eq]
  generalize (lg_sl ([.ref b]) ++ List.replicate (4 - (lg_sl ([.ref b])).length) Slot.unset).toArray = ls at hl ⊢
  have hl : lv_has ls 4 [(0, .ref b)] := hl
  refine va_new (ci := 6) (fs := [.null, .null, .null, .null, .null, .null, .int 0, .int 0, .null, .null, .null, .null, .null]) (C := RX6) (T := TX6) (N := 13) (own := RL) (index := 7) hx hb htp in_6 tyX6 tyX6_ok hown (htp _ (pt_tbl_in (List.mem_of_getElem? (i := 72) (by decide +kernel)) rfl)) (htp _ (pt_tbl_in (List.mem_of_getElem? (i := 73) (by decide +kernel)) rfl)) (htp _ (pt_tbl_in (List.mem_of_getElem? (i := 57) (by decide +kernel)) rfl)) hK hP hD hS hA rfl (fun j hj => by rcases (show j = 0 ∨ j = 1 ∨ j = 2 ∨ j = 3 ∨ j = 4 ∨ j = 5 ∨ j = 6 ∨ j = 7 ∨ j = 8 ∨ j = 9 ∨ j = 10 ∨ j = 11 ∨ j = 12 by omega) with rfl | rfl | rfl | rfl | rfl | rfl | rfl | rfl | rfl | rfl | rfl | rfl | rfl <;> rfl) (Nat.le_of_ble_eq_true rfl) (Nat.le_of_ble_eq_true rfl) (by decide +kernel) (fun q6 H hP hD hS => ?_)
  refine lv_dup hx hb (by decide +kernel) rfl ?_
  refine n_call2 (own := RL) (ix := 9) (w := []) (q := q6) (rest := [.ref q6]) hx hb hml hown htp (n_X6 l D cc) (List.mem_of_getElem? (i := 76) (by decide +kernel)) (pt_tbl_in (List.mem_of_getElem? (i := 57) (by decide +kernel)) rfl) (pt_tbl_in (List.mem_of_getElem? (i := 75) (by decide +kernel)) rfl) rfl rfl rfl (by decide +kernel) ⟨Nat.le_of_ble_eq_true rfl, Nat.le_of_ble_eq_true rfl⟩ (pt_tbl_in (List.mem_of_getElem? (i := 74) (by decide +kernel)) rfl) hK hN hP hD hS hA hl.1 (Nat.le_of_ble_eq_true rfl) (by decide +kernel) ⟨Nat.le_of_ble_eq_true rfl, Nat.le_of_ble_eq_true rfl⟩ (fun w1 H locs hw1 hP hD hS => ?_)
  refine lv_astore_n (k := 1) (lv' := [(1, .ref q6), (0, .ref b)]) hx hb (by decide +kernel) rfl hl (by decide) rfl (fun ls hl => ?_)
  have hP : va_P D vwCl w1 H := hP
  have hD : va_D (fun q : Nat => s.heap.size ≤ q) w1 := hD
  refine va_new (ci := 7) (fs := [.int 0, .int 0, .null, .null, .null, .null, .null, .null, .int 0, .null, .int 0, .int 0, .int 0, .int 0, .int 0, .int 0, .int 0, .int 0, .int 0, .int 0, .null, .int 0, .null, .null, .null, .null, .null, .null, .int 0]) (C := RX7) (T := TX7) (N := 29) (own := RL) (index := 10) hx hb htp in_7 tyX7 tyX7_ok hown (htp _ (pt_tbl_in (List.mem_of_getElem? (i := 723) (by decide +kernel)) rfl)) (htp _ (pt_tbl_in (List.mem_of_getElem? (i := 724) (by decide +kernel)) rfl)) (htp _ (pt_tbl_in (List.mem_of_getElem? (i := 64) (by decide +kernel)) rfl)) hK hP hD hS hA rfl (fun j hj => by rcases (show j = 0 ∨ j = 1 ∨ j = 2 ∨ j = 3 ∨ j = 4 ∨ j = 5 ∨ j = 6 ∨ j = 7 ∨ j = 8 ∨ j = 9 ∨ j = 10 ∨ j = 11 ∨ j = 12 ∨ j = 13 ∨ j = 14 ∨ j = 15 ∨ j = 16 ∨ j = 17 ∨ j = 18 ∨ j = 19 ∨ j = 20 ∨ j = 21 ∨ j = 22 ∨ j = 23 ∨ j = 24 ∨ j = 25 ∨ j = 26 ∨ j = 27 ∨ j = 28 by omega) with rfl | rfl | rfl | rfl | rfl | rfl | rfl | rfl | rfl | rfl | rfl | rfl | rfl | rfl | rfl | rfl | rfl | rfl | rfl | rfl | rfl | rfl | rfl | rfl | rfl | rfl | rfl | rfl | rfl <;> rfl) (Nat.le_of_ble_eq_true rfl) (Nat.le_of_ble_eq_true rfl) (by decide +kernel) (fun q7 H hP hD hS => ?_)
  refine lv_dup hx hb (by decide +kernel) rfl ?_
  refine n_call2 (own := RL) (ix := 12) (w := w1) (q := q7) (rest := [.ref q7]) hx hb hml hown htp (n_X7 l D cc) (List.mem_of_getElem? (i := 727) (by decide +kernel)) (pt_tbl_in (List.mem_of_getElem? (i := 64) (by decide +kernel)) rfl) (pt_tbl_in (List.mem_of_getElem? (i := 726) (by decide +kernel)) rfl) rfl rfl rfl (by decide +kernel) ⟨Nat.le_of_ble_eq_true rfl, Nat.le_of_ble_eq_true rfl⟩ (pt_tbl_in (List.mem_of_getElem? (i := 725) (by decide +kernel)) rfl) hK hN hP hD hS hA hl.1 (Nat.le_of_ble_eq_true rfl) (by decide +kernel) ⟨Nat.le_of_ble_eq_true rfl, Nat.le_of_ble_eq_true rfl⟩ (fun w2 H locs hw2 hP hD hS => ?_)
  refine lv_astore_n (k := 2) (lv' := [(2, .ref q7), (1, .ref q6), (0, .ref b)]) hx hb (by decide +kernel) rfl hl (by decide) rfl (fun ls hl => ?_)
  refine lv_iconst (v := 0) hx hb (n := 0) (by decide +kernel) (by decide +kernel) ?_
  refine lv_istore_n (k := 3) (lv' := [(3, .int 0), (2, .ref q7), (1, .ref q6), (0, .ref b)]) hx hb (by decide +kernel) rfl hl (by decide) rfl (fun ls hl => ?_)
  refine W.widen (k := 600000) (n := 7302250) (Nat.le_of_ble_eq_true rfl) (Nat.le_of_ble_eq_true rfl) ?_
  -- the small machine's places
  obtain ⟨ga, hga⟩ : ∃ ga : Nat → Nat, ∀ k, ga k = match (w1 ++ w2)[n_pi k]? with | some x => x.1 | none => 0 := ⟨_, fun _ => rfl⟩
  have hg : ∀ (k : Nat) (x : Nat × va_E), k < 158 → (w1 ++ w2)[n_pi k]? = some x → ga k = x.1 := fun k x _ h => by rw [hga, h]
  obtain ⟨G, hG⟩ : ∃ G : pt_G, G = (D, cc, ga, gK, gV, gT, (b, L, xs), F, s.heap.size) := ⟨_, rfl⟩
  have eA : gA G = ga := by rw [hG]
  obtain ⟨hgood, e0, e143, hlen⟩ := n_world (G := G) hP (by rw [eA]; exact hg) (fun i => by rw [hG]) hw1 hw2
  have hex : ∀ k, k < 158 → ∃ x, (w1 ++ w2)[n_pi k]? = some x := fun k hk => by
    cases h : (w1 ++ w2)[n_pi k]? with
    | some x => exact ⟨x, rfl⟩
    | none =>
      have h1 := List.getElem?_eq_none_iff.mp h
      have h2 := n_pi_lt k hk
      omega
  have J : pt_J G := by
    refine ⟨fun i j hi hj hij => ?_, fun i hi => ?_, by rw [hG]; exact hF⟩
    · obtain ⟨x, hx1⟩ := hex i hi
      obtain ⟨y, hy1⟩ := hex j hj
      rw [eA, hg i x hi hx1, hg j y hj hy1] at hij
      exact n_pi_inj i hi j hj (hD.1 _ _ x y hx1 hy1 hij)
    · obtain ⟨x, hx1⟩ := hex i hi
      rw [eA, hg i x hi hx1]
      have := hD.2 _ _ hx1
      rw [hG]
      exact this
  have hPW : va_P (gD G) vwCl (pt_W G n_m0) H := by
    intro k q hq
    have hk : k < 158 := by
      have := (List.getElem?_eq_some_iff.mp hq).1
      unfold pt_W at this
      rwa [List.length_map, List.length_range] at this
    unfold pt_W at hq
    rw [List.getElem?_map, List.getElem?_range hk] at hq
    cases hq
    have h := hgood k hk
    unfold n_g at h
    have eD : gD G = D := by rw [hG]
    rw [eD]
    exact h
  refine n_run l hL C0 J (by rw [hG]) (by rw [hG]) (by rw [hG]) (by rw [hG]) (by rw [hG]; exact hK) (by rw [hG]; exact hSt D cc ga) ?_ hPW (by rw [hG]; exact hS)
  rw [e0, e143]
  exact lv_sub hl [3, 2, 1, 0] rfl
