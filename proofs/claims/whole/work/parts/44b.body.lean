/-! 44b.body: which body is told for a kind (written by gen_ask.py) -/
def bodF (what kind : Int32) : Int32 := if what = 0 then (if kind = 2 then 12 else if kind = 4 then 13 else if kind = 5 then 14 else 11) else (if kind = 2 then 24 else if kind = 3 then 22 else if kind = 1 then 21 else 23)
theorem c_body_0_1 {d : Nat} {Q : pt_Q} {m : pt_M} (h : Q (some (zI (bodF 0 1))) m) : Sp (d + 1) nX1_bodyFor [zR 1 135, zI 0, zI 1] m Q := by
  refine sX1_bodyFor ?_
  refine Go_rn [8] 100 ?_
  refine Go_rn [8] 100 ?_
  refine br_f (by decide) ?_
  refine br_f (by decide) ?_
  refine br_f (by decide) ?_
  refine br_t (by decide) ?_
  refine br_t rfl ?_
  refine ⟨1, by decide, by decide, ?_⟩
  refine ⟨1, by decide, by decide, ?_⟩
  refine Go_rn [] 100 ?_
  refine br_f (by decide) ?_
  refine br_f (by decide) ?_
  refine br_f (by decide) ?_
  refine br_f (by decide) ?_
  exact h
theorem c_body_0_2 {d : Nat} {Q : pt_Q} {m : pt_M} (h : Q (some (zI (bodF 0 2))) m) : Sp (d + 1) nX1_bodyFor [zR 1 135, zI 0, zI 2] m Q := by
  refine sX1_bodyFor ?_
  refine Go_rn [8] 100 ?_
  refine Go_rn [8] 100 ?_
  refine br_f (by decide) ?_
  refine br_f (by decide) ?_
  refine br_f (by decide) ?_
  refine br_t (by decide) ?_
  refine br_t rfl ?_
  refine ⟨2, by decide, by decide, ?_⟩
  refine ⟨2, by decide, by decide, ?_⟩
  refine Go_rn [] 100 ?_
  refine br_f (by decide) ?_
  refine br_f (by decide) ?_
  refine br_f (by decide) ?_
  refine br_f (by decide) ?_
  exact h
theorem c_body_0_3 {d : Nat} {Q : pt_Q} {m : pt_M} (h : Q (some (zI (bodF 0 3))) m) : Sp (d + 1) nX1_bodyFor [zR 1 135, zI 0, zI 3] m Q := by
  refine sX1_bodyFor ?_
  refine Go_rn [8] 100 ?_
  refine Go_rn [8] 100 ?_
  refine br_f (by decide) ?_
  refine br_f (by decide) ?_
  refine br_f (by decide) ?_
  refine br_t (by decide) ?_
  refine br_t rfl ?_
  refine ⟨3, by decide, by decide, ?_⟩
  refine ⟨3, by decide, by decide, ?_⟩
  refine Go_rn [8] 100 ?_
  refine br_f (by decide) ?_
  refine br_f (by decide) ?_
  refine br_f (by decide) ?_
  refine br_t (by decide) ?_
  refine br_t rfl ?_
  refine ⟨1, by decide, by decide, ?_⟩
  refine ⟨1, by decide, by decide, ?_⟩
  refine Go_rn [] 100 ?_
  refine br_f (by decide) ?_
  refine br_f (by decide) ?_
  refine br_f (by decide) ?_
  refine br_f (by decide) ?_
  exact h
theorem c_body_0_4 {d : Nat} {Q : pt_Q} {m : pt_M} (h : Q (some (zI (bodF 0 4))) m) : Sp (d + 1) nX1_bodyFor [zR 1 135, zI 0, zI 4] m Q := by
  refine sX1_bodyFor ?_
  refine Go_rn [8] 100 ?_
  refine Go_rn [8] 100 ?_
  refine br_f (by decide) ?_
  refine br_f (by decide) ?_
  refine br_f (by decide) ?_
  refine br_t (by decide) ?_
  refine br_t rfl ?_
  refine ⟨4, by decide, by decide, ?_⟩
  refine ⟨4, by decide, by decide, ?_⟩
  refine Go_rn [] 100 ?_
  refine br_f (by decide) ?_
  refine br_f (by decide) ?_
  refine br_f (by decide) ?_
  refine br_f (by decide) ?_
  exact h
theorem c_body_0_5 {d : Nat} {Q : pt_Q} {m : pt_M} (h : Q (some (zI (bodF 0 5))) m) : Sp (d + 1) nX1_bodyFor [zR 1 135, zI 0, zI 5] m Q := by
  refine sX1_bodyFor ?_
  refine Go_rn [8] 100 ?_
  refine Go_rn [8] 100 ?_
  refine br_f (by decide) ?_
  refine br_f (by decide) ?_
  refine br_f (by decide) ?_
  refine br_t (by decide) ?_
  refine br_t rfl ?_
  refine ⟨5, by decide, by decide, ?_⟩
  refine ⟨5, by decide, by decide, ?_⟩
  refine Go_rn [] 100 ?_
  refine br_f (by decide) ?_
  refine br_f (by decide) ?_
  refine br_f (by decide) ?_
  refine br_f (by decide) ?_
  exact h
theorem c_body_1_1 {d : Nat} {Q : pt_Q} {m : pt_M} (h : Q (some (zI (bodF 1 1))) m) : Sp (d + 1) nX1_bodyFor [zR 1 135, zI 1, zI 1] m Q := by
  refine sX1_bodyFor ?_
  refine Go_rn [8] 100 ?_
  refine Go_rn [8] 100 ?_
  refine br_f (by decide) ?_
  refine br_f (by decide) ?_
  refine br_f (by decide) ?_
  refine br_t (by decide) ?_
  refine br_f (by decide) ?_
  refine ⟨1, by decide, by decide, ?_⟩
  refine ⟨1, by decide, by decide, ?_⟩
  refine Go_rn [] 100 ?_
  refine br_f (by decide) ?_
  refine br_f (by decide) ?_
  refine br_f (by decide) ?_
  refine br_f (by decide) ?_
  exact h
theorem c_body_1_2 {d : Nat} {Q : pt_Q} {m : pt_M} (h : Q (some (zI (bodF 1 2))) m) : Sp (d + 1) nX1_bodyFor [zR 1 135, zI 1, zI 2] m Q := by
  refine sX1_bodyFor ?_
  refine Go_rn [8] 100 ?_
  refine Go_rn [8] 100 ?_
  refine br_f (by decide) ?_
  refine br_f (by decide) ?_
  refine br_f (by decide) ?_
  refine br_t (by decide) ?_
  refine br_f (by decide) ?_
  refine ⟨2, by decide, by decide, ?_⟩
  refine ⟨2, by decide, by decide, ?_⟩
  refine Go_rn [] 100 ?_
  refine br_f (by decide) ?_
  refine br_f (by decide) ?_
  refine br_f (by decide) ?_
  refine br_f (by decide) ?_
  exact h
theorem c_body_1_3 {d : Nat} {Q : pt_Q} {m : pt_M} (h : Q (some (zI (bodF 1 3))) m) : Sp (d + 1) nX1_bodyFor [zR 1 135, zI 1, zI 3] m Q := by
  refine sX1_bodyFor ?_
  refine Go_rn [8] 100 ?_
  refine Go_rn [8] 100 ?_
  refine br_f (by decide) ?_
  refine br_f (by decide) ?_
  refine br_f (by decide) ?_
  refine br_t (by decide) ?_
  refine br_f (by decide) ?_
  refine ⟨3, by decide, by decide, ?_⟩
  refine ⟨3, by decide, by decide, ?_⟩
  refine Go_rn [] 100 ?_
  refine br_f (by decide) ?_
  refine br_f (by decide) ?_
  refine br_f (by decide) ?_
  refine br_f (by decide) ?_
  exact h
theorem c_body_1_4 {d : Nat} {Q : pt_Q} {m : pt_M} (h : Q (some (zI (bodF 1 4))) m) : Sp (d + 1) nX1_bodyFor [zR 1 135, zI 1, zI 4] m Q := by
  refine sX1_bodyFor ?_
  refine Go_rn [8] 100 ?_
  refine Go_rn [8] 100 ?_
  refine br_f (by decide) ?_
  refine br_f (by decide) ?_
  refine br_f (by decide) ?_
  refine br_t (by decide) ?_
  refine br_f (by decide) ?_
  refine ⟨4, by decide, by decide, ?_⟩
  refine ⟨4, by decide, by decide, ?_⟩
  refine Go_rn [] 100 ?_
  refine br_f (by decide) ?_
  refine br_f (by decide) ?_
  refine br_f (by decide) ?_
  refine br_f (by decide) ?_
  exact h
theorem c_body_1_5 {d : Nat} {Q : pt_Q} {m : pt_M} (h : Q (some (zI (bodF 1 5))) m) : Sp (d + 1) nX1_bodyFor [zR 1 135, zI 1, zI 5] m Q := by
  refine sX1_bodyFor ?_
  refine Go_rn [8] 100 ?_
  refine Go_rn [8] 100 ?_
  refine br_f (by decide) ?_
  refine br_f (by decide) ?_
  refine br_f (by decide) ?_
  refine br_t (by decide) ?_
  refine br_f (by decide) ?_
  refine ⟨5, by decide, by decide, ?_⟩
  refine ⟨5, by decide, by decide, ?_⟩
  refine Go_rn [8] 100 ?_
  refine br_f (by decide) ?_
  refine br_f (by decide) ?_
  refine br_f (by decide) ?_
  refine br_t (by decide) ?_
  refine br_f (by decide) ?_
  refine ⟨4, by decide, by decide, ?_⟩
  refine ⟨4, by decide, by decide, ?_⟩
  refine Go_rn [] 100 ?_
  refine br_f (by decide) ?_
  refine br_f (by decide) ?_
  refine br_f (by decide) ?_
  refine br_f (by decide) ?_
  exact h
theorem c_bodyFor {d : Nat} {Q : pt_Q} {m : pt_M} {w k : Int32} (hw : w = 0 ∨ w = 1) (hk : k = 1 ∨ k = 2 ∨ k = 3 ∨ k = 4 ∨ k = 5) (h : Q (some (zI (bodF w k))) m) : Sp (d + 1) nX1_bodyFor [zR 1 135, zI w, zI k] m Q := by
  rcases hw with rfl | rfl
  · rcases hk with rfl | rfl | rfl | rfl | rfl
    · exact c_body_0_1 h
    · exact c_body_0_2 h
    · exact c_body_0_3 h
    · exact c_body_0_4 h
    · exact c_body_0_5 h
  · rcases hk with rfl | rfl | rfl | rfl | rfl
    · exact c_body_1_1 h
    · exact c_body_1_2 h
    · exact c_body_1_3 h
    · exact c_body_1_4 h
    · exact c_body_1_5 h
