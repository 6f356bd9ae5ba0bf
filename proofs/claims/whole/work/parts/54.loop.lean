/-! 54.loop: the law's loop (partly written by gen_law.py) -/
def lw_inv (m : pt_M) : Prop := ∃ a, OK a ∧ IC m a ∧ IM m a
theorem IM_kM {m m1 : pt_M} {a : pt_al} (h : IM m a) (k : kM m m1) : IM m1 a := IM_fr h (fun o j hp => k o j (by unfold pM at hp; omega))
theorem IC_kC {m m1 : pt_M} {a : pt_al} (h : IC m a) (k : kC m m1) : IC m1 a := IC_fr h (fun o j hp => k o j (by unfold pC at hp; omega))
theorem law_0 {xl i : Nat} {xs : Nat → Int32} {Q : pt_Q} {m : pt_M} (hi : i + 6 ≤ xl) (hI : lw_inv m) (h : ∀ m1, lw_inv m1 → Go (Sp 20) (tLaw xl xs) Q 1275 [some (zR 21 0), some (zR 6 0), some (zR 7 143), some (zI (nI i))] [] m1) : Go (Sp 20) (tLaw xl xs) Q 172 [some (zR 21 0), some (zR 6 0), some (zR 7 143), some (zI (nI i))] [] m := by
  obtain ⟨a, O, hC, hM⟩ := hI
  refine Go_rn [1275] 100 ?_
  refine ⟨i + 1, nI_add i 1, by omega, ?_⟩
  refine ⟨i + 2, nI_add i 2, by omega, ?_⟩
  refine ⟨i + 3, nI_add i 3, by omega, ?_⟩
  refine C_row hC (fun m1 k1 c1 => ?_)
  refine ⟨i + 1, nI_add i 1, by omega, ?_⟩
  refine ⟨i + 2, nI_add i 2, by omega, ?_⟩
  refine ⟨i + 3, nI_add i 3, by omega, ?_⟩
  refine M_row (IM_kM hM k1) (fun m2 k2 c2 => ?_)
  refine br_t rfl ?_
  exact h m2 ⟨_, rowX_ok O (xs (i + 1)) (xs (i + 2)) (xs (i + 3)), IC_kC c1 k2, c2⟩
theorem law_1 {xl i : Nat} {xs : Nat → Int32} {Q : pt_Q} {m : pt_M} (hi : i + 6 ≤ xl) (hI : lw_inv m) (h : ∀ m1, lw_inv m1 → Go (Sp 20) (tLaw xl xs) Q 1275 [some (zR 21 0), some (zR 6 0), some (zR 7 143), some (zI (nI i))] [] m1) : Go (Sp 20) (tLaw xl xs) Q 215 [some (zR 21 0), some (zR 6 0), some (zR 7 143), some (zI (nI i))] [] m := by
  obtain ⟨a, O, hC, hM⟩ := hI
  refine Go_rn [1275] 100 ?_
  refine ⟨i + 1, nI_add i 1, by omega, ?_⟩
  refine ⟨i + 2, nI_add i 2, by omega, ?_⟩
  refine ⟨i + 3, nI_add i 3, by omega, ?_⟩
  refine C_set O hC (fun m1 k1 c1 => ?_)
  refine ⟨i + 1, nI_add i 1, by omega, ?_⟩
  refine ⟨i + 2, nI_add i 2, by omega, ?_⟩
  refine ⟨i + 3, nI_add i 3, by omega, ?_⟩
  refine M_set O (IM_kM hM k1) (fun m2 k2 c2 => ?_)
  refine br_t rfl ?_
  exact h m2 ⟨_, setX_ok O (xs (i + 1)) (xs (i + 2)) (xs (i + 3)), IC_kC c1 k2, c2⟩
theorem law_2 {xl i : Nat} {xs : Nat → Int32} {Q : pt_Q} {m : pt_M} (hi : i + 6 ≤ xl) (hI : lw_inv m) (h : ∀ m1, lw_inv m1 → Go (Sp 20) (tLaw xl xs) Q 1275 [some (zR 21 0), some (zR 6 0), some (zR 7 143), some (zI (nI i))] [] m1) : Go (Sp 20) (tLaw xl xs) Q 258 [some (zR 21 0), some (zR 6 0), some (zR 7 143), some (zI (nI i))] [] m := by
  obtain ⟨a, O, hC, hM⟩ := hI
  refine Go_rn [1275] 100 ?_
  refine ⟨i + 1, nI_add i 1, by omega, ?_⟩
  refine ⟨i + 2, nI_add i 2, by omega, ?_⟩
  refine ⟨i + 3, nI_add i 3, by omega, ?_⟩
  refine ⟨i + 4, nI_add i 4, by omega, ?_⟩
  refine ⟨i + 5, nI_add i 5, by omega, ?_⟩
  refine C_copy O hC (fun m1 k1 c1 => ?_)
  refine ⟨i + 1, nI_add i 1, by omega, ?_⟩
  refine ⟨i + 2, nI_add i 2, by omega, ?_⟩
  refine ⟨i + 3, nI_add i 3, by omega, ?_⟩
  refine ⟨i + 4, nI_add i 4, by omega, ?_⟩
  refine ⟨i + 5, nI_add i 5, by omega, ?_⟩
  refine M_copy O (IM_kM hM k1) (fun m2 k2 c2 => ?_)
  refine br_t rfl ?_
  exact h m2 ⟨_, copyX_ok O (xs (i + 1)) (xs (i + 2)) (xs (i + 3)) (xs (i + 4)) (xs (i + 5)), IC_kC c1 k2, c2⟩
theorem law_3 {xl i : Nat} {xs : Nat → Int32} {Q : pt_Q} {m : pt_M} (hi : i + 6 ≤ xl) (hI : lw_inv m) (h : ∀ m1, lw_inv m1 → Go (Sp 20) (tLaw xl xs) Q 1275 [some (zR 21 0), some (zR 6 0), some (zR 7 143), some (zI (nI i))] [] m1) : Go (Sp 20) (tLaw xl xs) Q 321 [some (zR 21 0), some (zR 6 0), some (zR 7 143), some (zI (nI i))] [] m := by
  obtain ⟨a, O, hC, hM⟩ := hI
  refine Go_rn [1275] 100 ?_
  refine ⟨i + 1, nI_add i 1, by omega, ?_⟩
  refine C_drop hC (fun m1 k1 c1 => ?_)
  refine ⟨i + 1, nI_add i 1, by omega, ?_⟩
  refine M_drop O (IM_kM hM k1) (fun m2 k2 c2 => ?_)
  refine br_t rfl ?_
  exact h m2 ⟨_, dropX_ok O (xs (i + 1)), IC_kC c1 k2, c2⟩
theorem law_4 {xl i : Nat} {xs : Nat → Int32} {Q : pt_Q} {m : pt_M} (hi : i + 6 ≤ xl) (hI : lw_inv m) (h : ∀ m1, lw_inv m1 → Go (Sp 20) (tLaw xl xs) Q 1275 [some (zR 21 0), some (zR 6 0), some (zR 7 143), some (zI (nI i))] [] m1) : Go (Sp 20) (tLaw xl xs) Q 344 [some (zR 21 0), some (zR 6 0), some (zR 7 143), some (zI (nI i))] [] m := by
  obtain ⟨a, O, hC, hM⟩ := hI
  refine Go_rn [1275] 100 ?_
  refine ⟨i + 1, nI_add i 1, by omega, ?_⟩
  refine ⟨i + 2, nI_add i 2, by omega, ?_⟩
  refine ⟨i + 3, nI_add i 3, by omega, ?_⟩
  refine C_feed O hC (fun m1 k1 c1 => ?_)
  refine ⟨i + 1, nI_add i 1, by omega, ?_⟩
  refine ⟨i + 2, nI_add i 2, by omega, ?_⟩
  refine ⟨i + 3, nI_add i 3, by omega, ?_⟩
  refine M_feed O (IM_kM hM k1) (fun m2 k2 c2 => ?_)
  refine br_t rfl ?_
  exact h m2 ⟨_, feedX_ok O (((xs (i + 1)).toInt64 <<< ((32 : Int32).toInt64 &&& 63)) ||| ((xs (i + 2)).toInt64 &&& 4294967295)) (xs (i + 3)), IC_kC c1 k2, c2⟩
theorem law_5 {xl i : Nat} {xs : Nat → Int32} {Q : pt_Q} {m : pt_M} (hi : i + 6 ≤ xl) (hI : lw_inv m) (h : ∀ m1, lw_inv m1 → Go (Sp 20) (tLaw xl xs) Q 1275 [some (zR 21 0), some (zR 6 0), some (zR 7 143), some (zI (nI i))] [] m1) : Go (Sp 20) (tLaw xl xs) Q 407 [some (zR 21 0), some (zR 6 0), some (zR 7 143), some (zI (nI i))] [] m := by
  obtain ⟨a, O, hC, hM⟩ := hI
  refine Go_rn [1275] 100 ?_
  refine C_street O hC (fun m1 k1 c1 => ?_)
  refine M_street O (IM_kM hM k1) (fun m2 k2 c2 => ?_)
  refine br_t rfl ?_
  exact h m2 ⟨_, streetX_ok O , IC_kC c1 k2, c2⟩
theorem law_6 {xl i : Nat} {xs : Nat → Int32} {Q : pt_Q} {m : pt_M} (hi : i + 6 ≤ xl) (hI : lw_inv m) (h : ∀ m1, lw_inv m1 → Go (Sp 20) (tLaw xl xs) Q 1275 [some (zR 21 0), some (zR 6 0), some (zR 7 143), some (zI (nI i))] [] m1) : Go (Sp 20) (tLaw xl xs) Q 420 [some (zR 21 0), some (zR 6 0), some (zR 7 143), some (zI (nI i))] [] m := by
  obtain ⟨a, O, hC, hM⟩ := hI
  refine Go_rn [1275] 100 ?_
  refine C_fault hC (fun m1 k1 c1 => ?_)
  refine M_fault (IM_kM hM k1) (fun m2 k2 c2 => ?_)
  refine br_t rfl ?_
  exact h m2 ⟨a, O, IC_kC c1 k2, c2⟩
theorem law_7 {xl i : Nat} {xs : Nat → Int32} {Q : pt_Q} {m : pt_M} (hi : i + 6 ≤ xl) (hI : lw_inv m) (h : ∀ m1, lw_inv m1 → Go (Sp 20) (tLaw xl xs) Q 1275 [some (zR 21 0), some (zR 6 0), some (zR 7 143), some (zI (nI i))] [] m1) : Go (Sp 20) (tLaw xl xs) Q 433 [some (zR 21 0), some (zR 6 0), some (zR 7 143), some (zI (nI i))] [] m := by
  obtain ⟨a, O, hC, hM⟩ := hI
  refine Go_rn [1275] 100 ?_
  refine ⟨i + 1, nI_add i 1, by omega, ?_⟩
  refine ⟨i + 2, nI_add i 2, by omega, ?_⟩
  refine ⟨i + 3, nI_add i 3, by omega, ?_⟩
  refine C_paint O hC (fun m1 k1 c1 => ?_)
  refine ⟨i + 1, nI_add i 1, by omega, ?_⟩
  refine ⟨i + 2, nI_add i 2, by omega, ?_⟩
  refine ⟨i + 3, nI_add i 3, by omega, ?_⟩
  refine M_paint O (IM_kM hM k1) (fun m2 k2 c2 => ?_)
  refine br_t rfl ?_
  exact h m2 ⟨_, paintX_ok O (xs (i + 1)) (xs (i + 2)) (xs (i + 3)), IC_kC c1 k2, c2⟩
theorem law_8 {xl i : Nat} {xs : Nat → Int32} {Q : pt_Q} {m : pt_M} (hi : i + 6 ≤ xl) (hI : lw_inv m) (h : ∀ m1, lw_inv m1 → Go (Sp 20) (tLaw xl xs) Q 1275 [some (zR 21 0), some (zR 6 0), some (zR 7 143), some (zI (nI i))] [] m1) : Go (Sp 20) (tLaw xl xs) Q 476 [some (zR 21 0), some (zR 6 0), some (zR 7 143), some (zI (nI i))] [] m := by
  obtain ⟨a, O, hC, hM⟩ := hI
  refine Go_rn [1275] 100 ?_
  refine ⟨i + 1, nI_add i 1, by omega, ?_⟩
  refine C_day O hC (fun m1 k1 c1 => ?_)
  refine ⟨i + 1, nI_add i 1, by omega, ?_⟩
  refine M_day O (IM_kM hM k1) (fun m2 k2 c2 => ?_)
  refine br_t rfl ?_
  exact h m2 ⟨_, dayX_ok O (xs (i + 1)), IC_kC c1 k2, c2⟩
theorem law_9 {xl i : Nat} {xs : Nat → Int32} {Q : pt_Q} {m : pt_M} (hi : i + 6 ≤ xl) (hI : lw_inv m) (h : ∀ m1, lw_inv m1 → Go (Sp 20) (tLaw xl xs) Q 1275 [some (zR 21 0), some (zR 6 0), some (zR 7 143), some (zI (nI i))] [] m1) : Go (Sp 20) (tLaw xl xs) Q 499 [some (zR 21 0), some (zR 6 0), some (zR 7 143), some (zI (nI i))] [] m := by
  obtain ⟨a, O, hC, hM⟩ := hI
  refine Go_rn [1275] 100 ?_
  refine ⟨i + 1, nI_add i 1, by omega, ?_⟩
  refine ⟨i + 2, nI_add i 2, by omega, ?_⟩
  refine ⟨i + 3, nI_add i 3, by omega, ?_⟩
  refine C_walk O hC (fun m1 k1 c1 => ?_)
  refine ⟨i + 1, nI_add i 1, by omega, ?_⟩
  refine ⟨i + 2, nI_add i 2, by omega, ?_⟩
  refine ⟨i + 3, nI_add i 3, by omega, ?_⟩
  refine M_walk O (IM_kM hM k1) (fun m2 k2 c2 => ?_)
  refine br_t rfl ?_
  exact h m2 ⟨_, walkX_ok O (xs (i + 1)) (xs (i + 2)) (xs (i + 3)), IC_kC c1 k2, c2⟩
theorem law_10 {xl i : Nat} {xs : Nat → Int32} {Q : pt_Q} {m : pt_M} (hi : i + 6 ≤ xl) (hI : lw_inv m) (h : ∀ m1, lw_inv m1 → Go (Sp 20) (tLaw xl xs) Q 1275 [some (zR 21 0), some (zR 6 0), some (zR 7 143), some (zI (nI i))] [] m1) : Go (Sp 20) (tLaw xl xs) Q 542 [some (zR 21 0), some (zR 6 0), some (zR 7 143), some (zI (nI i))] [] m := by
  obtain ⟨a, O, hC, hM⟩ := hI
  refine Go_rn [1275] 100 ?_
  refine ⟨i + 1, nI_add i 1, by omega, ?_⟩
  refine C_rest O hC (fun m1 k1 c1 => ?_)
  refine ⟨i + 1, nI_add i 1, by omega, ?_⟩
  refine M_rest O (IM_kM hM k1) (fun m2 k2 c2 => ?_)
  refine br_t rfl ?_
  exact h m2 ⟨_, restX_ok O (xs (i + 1)), IC_kC c1 k2, c2⟩
theorem law_11 {xl i : Nat} {xs : Nat → Int32} {Q : pt_Q} {m : pt_M} (hi : i + 6 ≤ xl) (hI : lw_inv m) (h : ∀ m1, lw_inv m1 → Go (Sp 20) (tLaw xl xs) Q 1275 [some (zR 21 0), some (zR 6 0), some (zR 7 143), some (zI (nI i))] [] m1) : Go (Sp 20) (tLaw xl xs) Q 565 [some (zR 21 0), some (zR 6 0), some (zR 7 143), some (zI (nI i))] [] m := by
  obtain ⟨a, O, hC, hM⟩ := hI
  refine Go_rn [1275] 100 ?_
  refine C_undo O hC (fun m1 k1 c1 => ?_)
  refine M_undo O (IM_kM hM k1) (fun m2 k2 c2 => ?_)
  refine br_t rfl ?_
  exact h m2 ⟨_, undoX_ok O , IC_kC c1 k2, c2⟩
theorem law_12 {xl i : Nat} {xs : Nat → Int32} {Q : pt_Q} {m : pt_M} (hi : i + 6 ≤ xl) (hI : lw_inv m) (h : ∀ m1, lw_inv m1 → Go (Sp 20) (tLaw xl xs) Q 1275 [some (zR 21 0), some (zR 6 0), some (zR 7 143), some (zI (nI i))] [] m1) : Go (Sp 20) (tLaw xl xs) Q 578 [some (zR 21 0), some (zR 6 0), some (zR 7 143), some (zI (nI i))] [] m := by
  obtain ⟨a, O, hC, hM⟩ := hI
  refine Go_rn [1275] 100 ?_
  refine ⟨i + 1, nI_add i 1, by omega, ?_⟩
  refine ⟨i + 2, nI_add i 2, by omega, ?_⟩
  refine C_wall O hC (fun m1 k1 c1 => ?_)
  refine ⟨i + 1, nI_add i 1, by omega, ?_⟩
  refine ⟨i + 2, nI_add i 2, by omega, ?_⟩
  refine M_wall O (IM_kM hM k1) (fun m2 k2 c2 => ?_)
  refine br_t rfl ?_
  exact h m2 ⟨a, O, IC_kC c1 k2, c2⟩
theorem law_13 {xl i : Nat} {xs : Nat → Int32} {Q : pt_Q} {m : pt_M} (hi : i + 6 ≤ xl) (hI : lw_inv m) (h : ∀ m1, lw_inv m1 → Go (Sp 20) (tLaw xl xs) Q 1275 [some (zR 21 0), some (zR 6 0), some (zR 7 143), some (zI (nI i))] [] m1) : Go (Sp 20) (tLaw xl xs) Q 611 [some (zR 21 0), some (zR 6 0), some (zR 7 143), some (zI (nI i))] [] m := by
  obtain ⟨a, O, hC, hM⟩ := hI
  refine Go_rn [1275] 100 ?_
  refine ⟨i + 1, nI_add i 1, by omega, ?_⟩
  refine ⟨i + 2, nI_add i 2, by omega, ?_⟩
  refine C_reader O hC (fun m1 k1 c1 => ?_)
  refine ⟨i + 1, nI_add i 1, by omega, ?_⟩
  refine ⟨i + 2, nI_add i 2, by omega, ?_⟩
  refine M_reader O (IM_kM hM k1) (fun m2 k2 c2 => ?_)
  refine br_t rfl ?_
  exact h m2 ⟨a, O, IC_kC c1 k2, c2⟩
theorem law_14 {xl i : Nat} {xs : Nat → Int32} {Q : pt_Q} {m : pt_M} (hi : i + 6 ≤ xl) (hI : lw_inv m) (h : ∀ m1, lw_inv m1 → Go (Sp 20) (tLaw xl xs) Q 1275 [some (zR 21 0), some (zR 6 0), some (zR 7 143), some (zI (nI i))] [] m1) : Go (Sp 20) (tLaw xl xs) Q 644 [some (zR 21 0), some (zR 6 0), some (zR 7 143), some (zI (nI i))] [] m := by
  obtain ⟨a, O, hC, hM⟩ := hI
  refine Go_rn [1275] 100 ?_
  refine ⟨i + 1, nI_add i 1, by omega, ?_⟩
  refine ⟨i + 2, nI_add i 2, by omega, ?_⟩
  refine ⟨i + 3, nI_add i 3, by omega, ?_⟩
  refine C_felt O hC (fun m1 k1 c1 => ?_)
  refine ⟨i + 1, nI_add i 1, by omega, ?_⟩
  refine ⟨i + 2, nI_add i 2, by omega, ?_⟩
  refine ⟨i + 3, nI_add i 3, by omega, ?_⟩
  refine M_felt O (IM_kM hM k1) (fun m2 k2 c2 => ?_)
  refine br_t rfl ?_
  exact h m2 ⟨a, O, IC_kC c1 k2, c2⟩
theorem law_15 {xl i : Nat} {xs : Nat → Int32} {Q : pt_Q} {m : pt_M} (hi : i + 6 ≤ xl) (hI : lw_inv m) (h : ∀ m1, lw_inv m1 → Go (Sp 20) (tLaw xl xs) Q 1275 [some (zR 21 0), some (zR 6 0), some (zR 7 143), some (zI (nI i))] [] m1) : Go (Sp 20) (tLaw xl xs) Q 687 [some (zR 21 0), some (zR 6 0), some (zR 7 143), some (zI (nI i))] [] m := by
  obtain ⟨a, O, hC, hM⟩ := hI
  refine Go_rn [1275] 100 ?_
  refine ⟨i + 1, nI_add i 1, by omega, ?_⟩
  refine ⟨i + 2, nI_add i 2, by omega, ?_⟩
  refine ⟨i + 3, nI_add i 3, by omega, ?_⟩
  refine ⟨i + 4, nI_add i 4, by omega, ?_⟩
  refine C_read O hC (fun m1 k1 c1 => ?_)
  refine ⟨i + 1, nI_add i 1, by omega, ?_⟩
  refine ⟨i + 2, nI_add i 2, by omega, ?_⟩
  refine ⟨i + 3, nI_add i 3, by omega, ?_⟩
  refine ⟨i + 4, nI_add i 4, by omega, ?_⟩
  refine M_read O (IM_kM hM k1) (fun m2 k2 c2 => ?_)
  refine br_t rfl ?_
  exact h m2 ⟨a, O, IC_kC c1 k2, c2⟩
theorem law_16 {xl i : Nat} {xs : Nat → Int32} {Q : pt_Q} {m : pt_M} (hi : i + 6 ≤ xl) (hI : lw_inv m) (h : ∀ m1, lw_inv m1 → Go (Sp 20) (tLaw xl xs) Q 1275 [some (zR 21 0), some (zR 6 0), some (zR 7 143), some (zI (nI i))] [] m1) : Go (Sp 20) (tLaw xl xs) Q 740 [some (zR 21 0), some (zR 6 0), some (zR 7 143), some (zI (nI i))] [] m := by
  obtain ⟨a, O, hC, hM⟩ := hI
  refine Go_rn [1275] 100 ?_
  refine ⟨i + 1, nI_add i 1, by omega, ?_⟩
  refine ⟨i + 2, nI_add i 2, by omega, ?_⟩
  refine ⟨i + 3, nI_add i 3, by omega, ?_⟩
  refine ⟨i + 4, nI_add i 4, by omega, ?_⟩
  refine C_wrong O hC (fun m1 k1 c1 => ?_)
  refine ⟨i + 1, nI_add i 1, by omega, ?_⟩
  refine ⟨i + 2, nI_add i 2, by omega, ?_⟩
  refine ⟨i + 3, nI_add i 3, by omega, ?_⟩
  refine ⟨i + 4, nI_add i 4, by omega, ?_⟩
  refine M_wrong O (IM_kM hM k1) (fun m2 k2 c2 => ?_)
  refine br_t rfl ?_
  exact h m2 ⟨_, wrongX_ok O (xs (i + 1)) (xs (i + 2)) (xs (i + 3)) (xs (i + 4)), IC_kC c1 k2, c2⟩
theorem law_17 {xl i : Nat} {xs : Nat → Int32} {Q : pt_Q} {m : pt_M} (hi : i + 6 ≤ xl) (hI : lw_inv m) (h : ∀ m1, lw_inv m1 → Go (Sp 20) (tLaw xl xs) Q 1275 [some (zR 21 0), some (zR 6 0), some (zR 7 143), some (zI (nI i))] [] m1) : Go (Sp 20) (tLaw xl xs) Q 793 [some (zR 21 0), some (zR 6 0), some (zR 7 143), some (zI (nI i))] [] m := by
  obtain ⟨a, O, hC, hM⟩ := hI
  refine Go_rn [1275] 100 ?_
  refine ⟨i + 1, nI_add i 1, by omega, ?_⟩
  refine ⟨i + 2, nI_add i 2, by omega, ?_⟩
  refine ⟨i + 3, nI_add i 3, by omega, ?_⟩
  refine C_often O hC (fun m1 k1 c1 => ?_)
  refine ⟨i + 1, nI_add i 1, by omega, ?_⟩
  refine ⟨i + 2, nI_add i 2, by omega, ?_⟩
  refine ⟨i + 3, nI_add i 3, by omega, ?_⟩
  refine M_often O (IM_kM hM k1) (fun m2 k2 c2 => ?_)
  refine br_t rfl ?_
  exact h m2 ⟨a, O, IC_kC c1 k2, c2⟩
theorem law_18 {xl i : Nat} {xs : Nat → Int32} {Q : pt_Q} {m : pt_M} (hi : i + 6 ≤ xl) (hI : lw_inv m) (h : ∀ m1, lw_inv m1 → Go (Sp 20) (tLaw xl xs) Q 1275 [some (zR 21 0), some (zR 6 0), some (zR 7 143), some (zI (nI i))] [] m1) : Go (Sp 20) (tLaw xl xs) Q 836 [some (zR 21 0), some (zR 6 0), some (zR 7 143), some (zI (nI i))] [] m := by
  obtain ⟨a, O, hC, hM⟩ := hI
  refine Go_rn [1275] 100 ?_
  refine ⟨i + 1, nI_add i 1, by omega, ?_⟩
  refine ⟨i + 2, nI_add i 2, by omega, ?_⟩
  refine ⟨i + 3, nI_add i 3, by omega, ?_⟩
  refine ⟨i + 4, nI_add i 4, by omega, ?_⟩
  refine ⟨i + 5, nI_add i 5, by omega, ?_⟩
  refine C_spice O hC (fun m1 k1 c1 => ?_)
  refine ⟨i + 1, nI_add i 1, by omega, ?_⟩
  refine ⟨i + 2, nI_add i 2, by omega, ?_⟩
  refine ⟨i + 3, nI_add i 3, by omega, ?_⟩
  refine ⟨i + 4, nI_add i 4, by omega, ?_⟩
  refine ⟨i + 5, nI_add i 5, by omega, ?_⟩
  refine M_spice O (IM_kM hM k1) (fun m2 k2 c2 => ?_)
  refine br_t rfl ?_
  exact h m2 ⟨_, spiceX_ok O (xs (i + 1)) (xs (i + 2)) (xs (i + 3)) (xs (i + 4)) (xs (i + 5)), IC_kC c1 k2, c2⟩
theorem law_19 {xl i : Nat} {xs : Nat → Int32} {Q : pt_Q} {m : pt_M} (hi : i + 6 ≤ xl) (hI : lw_inv m) (h : ∀ m1, lw_inv m1 → Go (Sp 20) (tLaw xl xs) Q 1275 [some (zR 21 0), some (zR 6 0), some (zR 7 143), some (zI (nI i))] [] m1) : Go (Sp 20) (tLaw xl xs) Q 899 [some (zR 21 0), some (zR 6 0), some (zR 7 143), some (zI (nI i))] [] m := by
  obtain ⟨a, O, hC, hM⟩ := hI
  refine Go_rn [1275] 100 ?_
  refine ⟨i + 1, nI_add i 1, by omega, ?_⟩
  refine ⟨i + 2, nI_add i 2, by omega, ?_⟩
  refine ⟨i + 3, nI_add i 3, by omega, ?_⟩
  refine ⟨i + 4, nI_add i 4, by omega, ?_⟩
  refine C_both O hC (fun m1 k1 c1 => ?_)
  refine ⟨i + 1, nI_add i 1, by omega, ?_⟩
  refine ⟨i + 2, nI_add i 2, by omega, ?_⟩
  refine ⟨i + 3, nI_add i 3, by omega, ?_⟩
  refine ⟨i + 4, nI_add i 4, by omega, ?_⟩
  refine M_both O (IM_kM hM k1) (fun m2 k2 c2 => ?_)
  refine br_t rfl ?_
  exact h m2 ⟨_, bothX_ok O (xs (i + 1)) (xs (i + 2)) (xs (i + 3)) (xs (i + 4)), IC_kC c1 k2, c2⟩
theorem law_20 {xl i : Nat} {xs : Nat → Int32} {Q : pt_Q} {m : pt_M} (hi : i + 6 ≤ xl) (hI : lw_inv m) (h : ∀ m1, lw_inv m1 → Go (Sp 20) (tLaw xl xs) Q 1275 [some (zR 21 0), some (zR 6 0), some (zR 7 143), some (zI (nI i))] [] m1) : Go (Sp 20) (tLaw xl xs) Q 952 [some (zR 21 0), some (zR 6 0), some (zR 7 143), some (zI (nI i))] [] m := by
  obtain ⟨a, O, hC, hM⟩ := hI
  refine Go_rn [1275] 100 ?_
  refine ⟨i + 1, nI_add i 1, by omega, ?_⟩
  refine ⟨i + 2, nI_add i 2, by omega, ?_⟩
  refine ⟨i + 3, nI_add i 3, by omega, ?_⟩
  refine C_order O hC (fun m1 k1 c1 => ?_)
  refine ⟨i + 1, nI_add i 1, by omega, ?_⟩
  refine ⟨i + 2, nI_add i 2, by omega, ?_⟩
  refine ⟨i + 3, nI_add i 3, by omega, ?_⟩
  refine M_order O (IM_kM hM k1) (fun m2 k2 c2 => ?_)
  refine br_t rfl ?_
  exact h m2 ⟨a, O, IC_kC c1 k2, c2⟩
theorem law_21 {xl i : Nat} {xs : Nat → Int32} {Q : pt_Q} {m : pt_M} (hi : i + 6 ≤ xl) (hI : lw_inv m) (h : ∀ m1, lw_inv m1 → Go (Sp 20) (tLaw xl xs) Q 1275 [some (zR 21 0), some (zR 6 0), some (zR 7 143), some (zI (nI i))] [] m1) : Go (Sp 20) (tLaw xl xs) Q 995 [some (zR 21 0), some (zR 6 0), some (zR 7 143), some (zI (nI i))] [] m := by
  obtain ⟨a, O, hC, hM⟩ := hI
  refine Go_rn [1275] 100 ?_
  refine ⟨i + 1, nI_add i 1, by omega, ?_⟩
  refine ⟨i + 2, nI_add i 2, by omega, ?_⟩
  refine ⟨i + 3, nI_add i 3, by omega, ?_⟩
  refine ⟨i + 4, nI_add i 4, by omega, ?_⟩
  refine C_written O hC (fun m1 k1 c1 => ?_)
  refine ⟨i + 1, nI_add i 1, by omega, ?_⟩
  refine ⟨i + 2, nI_add i 2, by omega, ?_⟩
  refine ⟨i + 3, nI_add i 3, by omega, ?_⟩
  refine ⟨i + 4, nI_add i 4, by omega, ?_⟩
  refine M_written O (IM_kM hM k1) (fun m2 k2 c2 => ?_)
  refine br_t rfl ?_
  exact h m2 ⟨a, O, IC_kC c1 k2, c2⟩
theorem law_22 {xl i : Nat} {xs : Nat → Int32} {Q : pt_Q} {m : pt_M} (hi : i + 6 ≤ xl) (hI : lw_inv m) (h : ∀ m1, lw_inv m1 → Go (Sp 20) (tLaw xl xs) Q 1275 [some (zR 21 0), some (zR 6 0), some (zR 7 143), some (zI (nI i))] [] m1) : Go (Sp 20) (tLaw xl xs) Q 1048 [some (zR 21 0), some (zR 6 0), some (zR 7 143), some (zI (nI i))] [] m := by
  obtain ⟨a, O, hC, hM⟩ := hI
  refine Go_rn [1275] 100 ?_
  refine ⟨i + 1, nI_add i 1, by omega, ?_⟩
  refine ⟨i + 2, nI_add i 2, by omega, ?_⟩
  refine C_forged O hC (fun m1 k1 c1 => ?_)
  refine ⟨i + 1, nI_add i 1, by omega, ?_⟩
  refine ⟨i + 2, nI_add i 2, by omega, ?_⟩
  refine M_forged O (IM_kM hM k1) (fun m2 k2 c2 => ?_)
  refine br_t rfl ?_
  exact h m2 ⟨_, forgedX_ok O (xs (i + 1)) (xs (i + 2)), IC_kC c1 k2, c2⟩
theorem law_23 {xl i : Nat} {xs : Nat → Int32} {Q : pt_Q} {m : pt_M} (hi : i + 6 ≤ xl) (hI : lw_inv m) (h : ∀ m1, lw_inv m1 → Go (Sp 20) (tLaw xl xs) Q 1275 [some (zR 21 0), some (zR 6 0), some (zR 7 143), some (zI (nI i))] [] m1) : Go (Sp 20) (tLaw xl xs) Q 1081 [some (zR 21 0), some (zR 6 0), some (zR 7 143), some (zI (nI i))] [] m := by
  obtain ⟨a, O, hC, hM⟩ := hI
  refine Go_rn [1275] 100 ?_
  refine ⟨i + 1, nI_add i 1, by omega, ?_⟩
  refine C_image O hC (fun m1 k1 c1 => ?_)
  refine ⟨i + 1, nI_add i 1, by omega, ?_⟩
  refine M_image O (IM_kM hM k1) (fun m2 k2 c2 => ?_)
  refine br_t rfl ?_
  exact h m2 ⟨_, imageX_ok O (xs (i + 1)), IC_kC c1 k2, c2⟩
theorem law_24 {xl i : Nat} {xs : Nat → Int32} {Q : pt_Q} {m : pt_M} (hi : i + 6 ≤ xl) (hI : lw_inv m) (h : ∀ m1, lw_inv m1 → Go (Sp 20) (tLaw xl xs) Q 1275 [some (zR 21 0), some (zR 6 0), some (zR 7 143), some (zI (nI i))] [] m1) : Go (Sp 20) (tLaw xl xs) Q 1104 [some (zR 21 0), some (zR 6 0), some (zR 7 143), some (zI (nI i))] [] m := by
  obtain ⟨a, O, hC, hM⟩ := hI
  refine Go_rn [1275] 100 ?_
  refine ⟨i + 1, nI_add i 1, by omega, ?_⟩
  refine C_restore O hC (fun m1 k1 c1 => ?_)
  refine ⟨i + 1, nI_add i 1, by omega, ?_⟩
  refine M_restore O (IM_kM hM k1) (fun m2 k2 c2 => ?_)
  refine br_t rfl ?_
  exact h m2 ⟨_, restoreX_ok O (xs (i + 1)), IC_kC c1 k2, c2⟩
theorem law_25 {xl i : Nat} {xs : Nat → Int32} {Q : pt_Q} {m : pt_M} (hi : i + 6 ≤ xl) (hI : lw_inv m) (h : ∀ m1, lw_inv m1 → Go (Sp 20) (tLaw xl xs) Q 1275 [some (zR 21 0), some (zR 6 0), some (zR 7 143), some (zI (nI i))] [] m1) : Go (Sp 20) (tLaw xl xs) Q 1127 [some (zR 21 0), some (zR 6 0), some (zR 7 143), some (zI (nI i))] [] m := by
  obtain ⟨a, O, hC, hM⟩ := hI
  refine Go_rn [1275] 100 ?_
  refine ⟨i + 1, nI_add i 1, by omega, ?_⟩
  refine C_kind O hC (fun m1 k1 c1 => ?_)
  refine ⟨i + 1, nI_add i 1, by omega, ?_⟩
  refine M_kind O (IM_kM hM k1) (fun m2 k2 c2 => ?_)
  refine br_t rfl ?_
  exact h m2 ⟨a, O, IC_kC c1 k2, c2⟩
theorem law_26 {xl i : Nat} {xs : Nat → Int32} {Q : pt_Q} {m : pt_M} (hi : i + 6 ≤ xl) (hI : lw_inv m) (h : ∀ m1, lw_inv m1 → Go (Sp 20) (tLaw xl xs) Q 1275 [some (zR 21 0), some (zR 6 0), some (zR 7 143), some (zI (nI i))] [] m1) : Go (Sp 20) (tLaw xl xs) Q 1150 [some (zR 21 0), some (zR 6 0), some (zR 7 143), some (zI (nI i))] [] m := by
  obtain ⟨a, O, hC, hM⟩ := hI
  refine Go_rn [1275] 100 ?_
  refine ⟨i + 1, nI_add i 1, by omega, ?_⟩
  refine ⟨i + 2, nI_add i 2, by omega, ?_⟩
  refine C_as O hC (fun m1 k1 c1 => ?_)
  refine ⟨i + 1, nI_add i 1, by omega, ?_⟩
  refine ⟨i + 2, nI_add i 2, by omega, ?_⟩
  refine M_as O (IM_kM hM k1) (fun m2 k2 c2 => ?_)
  refine br_t rfl ?_
  exact h m2 ⟨_, asX_ok O (xs (i + 1)) (xs (i + 2)), IC_kC c1 k2, c2⟩
theorem law_27 {xl i : Nat} {xs : Nat → Int32} {Q : pt_Q} {m : pt_M} (hi : i + 6 ≤ xl) (hI : lw_inv m) (h : ∀ m1, lw_inv m1 → Go (Sp 20) (tLaw xl xs) Q 1275 [some (zR 21 0), some (zR 6 0), some (zR 7 143), some (zI (nI i))] [] m1) : Go (Sp 20) (tLaw xl xs) Q 1183 [some (zR 21 0), some (zR 6 0), some (zR 7 143), some (zI (nI i))] [] m := by
  obtain ⟨a, O, hC, hM⟩ := hI
  refine Go_rn [1275] 100 ?_
  refine ⟨i + 1, nI_add i 1, by omega, ?_⟩
  refine ⟨i + 2, nI_add i 2, by omega, ?_⟩
  refine C_ask O hC (fun m1 k1 c1 => ?_)
  refine ⟨i + 1, nI_add i 1, by omega, ?_⟩
  refine ⟨i + 2, nI_add i 2, by omega, ?_⟩
  refine M_ask O (IM_kM hM k1) (fun m2 k2 c2 => ?_)
  refine br_t rfl ?_
  exact h m2 ⟨_, askX_ok O (xs (i + 1)) (xs (i + 2)), IC_kC c1 k2, c2⟩
theorem law_28 {xl i : Nat} {xs : Nat → Int32} {Q : pt_Q} {m : pt_M} (hi : i + 6 ≤ xl) (hI : lw_inv m) (h : ∀ m1, lw_inv m1 → Go (Sp 20) (tLaw xl xs) Q 1275 [some (zR 21 0), some (zR 6 0), some (zR 7 143), some (zI (nI i))] [] m1) : Go (Sp 20) (tLaw xl xs) Q 1216 [some (zR 21 0), some (zR 6 0), some (zR 7 143), some (zI (nI i))] [] m := by
  obtain ⟨a, O, hC, hM⟩ := hI
  refine Go_rn [1275] 100 ?_
  refine ⟨i + 1, nI_add i 1, by omega, ?_⟩
  refine C_trace O hC (fun m1 k1 c1 => ?_)
  refine ⟨i + 1, nI_add i 1, by omega, ?_⟩
  refine M_trace O (IM_kM hM k1) (fun m2 k2 c2 => ?_)
  refine br_t rfl ?_
  exact h m2 ⟨a, O, IC_kC c1 k2, c2⟩
theorem law_29 {xl i : Nat} {xs : Nat → Int32} {Q : pt_Q} {m : pt_M} (hi : i + 6 ≤ xl) (hI : lw_inv m) (h : ∀ m1, lw_inv m1 → Go (Sp 20) (tLaw xl xs) Q 1275 [some (zR 21 0), some (zR 6 0), some (zR 7 143), some (zI (nI i))] [] m1) : Go (Sp 20) (tLaw xl xs) Q 1239 [some (zR 21 0), some (zR 6 0), some (zR 7 143), some (zI (nI i))] [] m := by
  obtain ⟨a, O, hC, hM⟩ := hI
  refine Go_rn [1275] 100 ?_
  refine ⟨i + 1, nI_add i 1, by omega, ?_⟩
  refine C_count O hC (fun m1 k1 c1 => ?_)
  refine ⟨i + 1, nI_add i 1, by omega, ?_⟩
  refine M_count O (IM_kM hM k1) (fun m2 k2 c2 => ?_)
  refine br_t rfl ?_
  exact h m2 ⟨a, O, IC_kC c1 k2, c2⟩
theorem law_30 {xl i : Nat} {xs : Nat → Int32} {Q : pt_Q} {m : pt_M} (hi : i + 6 ≤ xl) (hI : lw_inv m) (h : ∀ m1, lw_inv m1 → Go (Sp 20) (tLaw xl xs) Q 1275 [some (zR 21 0), some (zR 6 0), some (zR 7 143), some (zI (nI i))] [] m1) : Go (Sp 20) (tLaw xl xs) Q 1262 [some (zR 21 0), some (zR 6 0), some (zR 7 143), some (zI (nI i))] [] m := by
  obtain ⟨a, O, hC, hM⟩ := hI
  refine Go_rn [1275] 100 ?_
  refine C_status hC (fun m1 k1 c1 => ?_)
  refine M_status (IM_kM hM k1) (fun m2 k2 c2 => ?_)
  refine br_t rfl ?_
  exact h m2 ⟨a, O, IC_kC c1 k2, c2⟩
theorem law_lim {xl i : Nat} (hxl : xl ≤ 3072) (hi : i ≤ 3072) : (nI xl - 6 < nI i ∧ xl < i + 6) ∨ (¬ nI xl - 6 < nI i ∧ i + 6 ≤ xl) := by
  rcases Nat.lt_or_ge xl 6 with h6 | h6
  · left
    have : ∀ x, x < 6 → nI x - 6 < 0 := by decide
    exact ⟨Int32.lt_of_lt_of_le (this xl h6) (nI_pos' (by omega)), by omega⟩
  · have e : nI xl - 6 = nI (xl - 6) := nI_sb (a := xl) (b := 6) h6
    rw [e]
    rcases Nat.lt_or_ge xl (i + 6) with q | q
    · exact Or.inl ⟨nI_lt (by omega) (by omega), q⟩
    · exact Or.inr ⟨nI_nlt (by omega) (by omega), q⟩
theorem law_loop {xl : Nat} {xs : Nat → Int32} {Q : pt_Q} (hxl : xl ≤ 3072) (hQ : ∀ m, Q (some (zI 1)) m) : ∀ (n i : Nat) (m : pt_M), i ≤ xl → xl < i + 6 * n + 6 → lw_inv m → Go (Sp 20) (tLaw xl xs) Q 18 [some (zR 21 0), some (zR 6 0), some (zR 7 143), some (zI (nI i))] [] m := by
  intro n
  induction n with
  | zero =>
    intro i m hi hn hI
    refine Go_rn [] 100 ?_
    rcases law_lim hxl (show i ≤ 3072 by omega) with ⟨q, -⟩ | ⟨-, q⟩
    · refine br_t q ?_
      exact ⟨bz1, hQ m⟩
    · omega
  | succ n ih =>
    intro i m hi hn hI
    refine Go_rn [33] 100 ?_
    rcases law_lim hxl (show i ≤ 3072 by omega) with ⟨q, -⟩ | ⟨q, h6⟩
    · refine br_t q ?_
      exact ⟨bz1, hQ m⟩
    · refine br_f q ?_
      refine ⟨i, rfl, by omega, ?_⟩
      have nxt : ∀ m1, lw_inv m1 → Go (Sp 20) (tLaw xl xs) Q 1275 [some (zR 21 0), some (zR 6 0), some (zR 7 143), some (zI (nI i))] [] m1 := fun m1 h1 => by
        refine Go_rn [18] 100 ?_
        show Go (Sp 20) (tLaw xl xs) Q 18 [some (zR 21 0), some (zR 6 0), some (zR 7 143), some (zI (nI i + 6))] [] m1
        rw [show nI i + 6 = nI (i + 6) from nI_add i 6]
        exact ih (i + 6) m1 h6 (by omega) h1
      obtain ⟨j, hj, e⟩ := pk_andE (xs i) (m := 31) 5 (by decide)
      have key : ∀ tg, pt_tsw 0 1275 [172, 215, 258, 321, 344, 407, 420, 433, 476, 499, 542, 565, 578, 611, 644, 687, 740, 793, 836, 899, 952, 995, 1048, 1081, 1104, 1127, 1150, 1183, 1216, 1239, 1262] (nI j) = tg → Go (Sp 20) (tLaw xl xs) Q tg [some (zR 21 0), some (zR 6 0), some (zR 7 143), some (zI (nI i))] [] m → Go (Sp 20) (tLaw xl xs) Q 33 [some (zR 21 0), some (zR 6 0), some (zR 7 143), some (zI (nI i))] [zI (xs i &&& 31)] m := fun tg e1 h1 => by
        rw [e]
        exact Go_tsw (lo := 0) (d := 1275) (ts := [172, 215, 258, 321, 344, 407, 420, 433, 476, 499, 542, 565, 578, 611, 644, 687, 740, 793, 836, 899, 952, 995, 1048, 1081, 1104, 1127, 1150, 1183, 1216, 1239, 1262]) rfl tg e1 h1
      have hj2 : j < 32 := hj
      rcases (show j = 0 ∨ j = 1 ∨ j = 2 ∨ j = 3 ∨ j = 4 ∨ j = 5 ∨ j = 6 ∨ j = 7 ∨ j = 8 ∨ j = 9 ∨ j = 10 ∨ j = 11 ∨ j = 12 ∨ j = 13 ∨ j = 14 ∨ j = 15 ∨ j = 16 ∨ j = 17 ∨ j = 18 ∨ j = 19 ∨ j = 20 ∨ j = 21 ∨ j = 22 ∨ j = 23 ∨ j = 24 ∨ j = 25 ∨ j = 26 ∨ j = 27 ∨ j = 28 ∨ j = 29 ∨ j = 30 ∨ j = 31 by omega) with rfl | rfl | rfl | rfl | rfl | rfl | rfl | rfl | rfl | rfl | rfl | rfl | rfl | rfl | rfl | rfl | rfl | rfl | rfl | rfl | rfl | rfl | rfl | rfl | rfl | rfl | rfl | rfl | rfl | rfl | rfl | rfl
      · exact key 172 (pt_tsw_n (by omega)) (law_0 h6 hI nxt)
      · exact key 215 (pt_tsw_n (by omega)) (law_1 h6 hI nxt)
      · exact key 258 (pt_tsw_n (by omega)) (law_2 h6 hI nxt)
      · exact key 321 (pt_tsw_n (by omega)) (law_3 h6 hI nxt)
      · exact key 344 (pt_tsw_n (by omega)) (law_4 h6 hI nxt)
      · exact key 407 (pt_tsw_n (by omega)) (law_5 h6 hI nxt)
      · exact key 420 (pt_tsw_n (by omega)) (law_6 h6 hI nxt)
      · exact key 433 (pt_tsw_n (by omega)) (law_7 h6 hI nxt)
      · exact key 476 (pt_tsw_n (by omega)) (law_8 h6 hI nxt)
      · exact key 499 (pt_tsw_n (by omega)) (law_9 h6 hI nxt)
      · exact key 542 (pt_tsw_n (by omega)) (law_10 h6 hI nxt)
      · exact key 565 (pt_tsw_n (by omega)) (law_11 h6 hI nxt)
      · exact key 578 (pt_tsw_n (by omega)) (law_12 h6 hI nxt)
      · exact key 611 (pt_tsw_n (by omega)) (law_13 h6 hI nxt)
      · exact key 644 (pt_tsw_n (by omega)) (law_14 h6 hI nxt)
      · exact key 687 (pt_tsw_n (by omega)) (law_15 h6 hI nxt)
      · exact key 740 (pt_tsw_n (by omega)) (law_16 h6 hI nxt)
      · exact key 793 (pt_tsw_n (by omega)) (law_17 h6 hI nxt)
      · exact key 836 (pt_tsw_n (by omega)) (law_18 h6 hI nxt)
      · exact key 899 (pt_tsw_n (by omega)) (law_19 h6 hI nxt)
      · exact key 952 (pt_tsw_n (by omega)) (law_20 h6 hI nxt)
      · exact key 995 (pt_tsw_n (by omega)) (law_21 h6 hI nxt)
      · exact key 1048 (pt_tsw_n (by omega)) (law_22 h6 hI nxt)
      · exact key 1081 (pt_tsw_n (by omega)) (law_23 h6 hI nxt)
      · exact key 1104 (pt_tsw_n (by omega)) (law_24 h6 hI nxt)
      · exact key 1127 (pt_tsw_n (by omega)) (law_25 h6 hI nxt)
      · exact key 1150 (pt_tsw_n (by omega)) (law_26 h6 hI nxt)
      · exact key 1183 (pt_tsw_n (by omega)) (law_27 h6 hI nxt)
      · exact key 1216 (pt_tsw_n (by omega)) (law_28 h6 hI nxt)
      · exact key 1239 (pt_tsw_n (by omega)) (law_29 h6 hI nxt)
      · exact key 1262 (pt_tsw_n (by omega)) (law_30 h6 hI nxt)
      · exact key 1275 (pt_tsw_n (by omega)) (nxt m hI)
