/-! 12.run: running the small machine up to the next cut -/
def pt_mem (n : Nat) : List Nat → Bool
  | [] => false
  | a :: l => cond (Nat.beq n a) true (pt_mem n l)
def pt_rn (C : pt_C) (t : Nat → Option pt_O) (Q : pt_Q) (K : pt_K) (cu : List Nat) : Nat → pt_K
  | 0 => K
  | n + 1 => fun pc L S m => match t pc with
    | some o => o C L S m (fun pc L S m => cond (pt_mem pc cu) (K pc L S m) (pt_rn C t Q K cu n pc L S m)) Q
    | none => False
theorem Go_rn {C : pt_C} {t : Nat → Option pt_O} {Q : pt_Q} (cu : List Nat) : ∀ (n : Nat) {pc : Nat} {L : pt_L} {S : pt_S} {m : pt_M}, pt_rn C t Q (Go C t Q) cu n pc L S m → Go C t Q pc L S m
  | 0, _, _, _, _, h => h
  | n + 1, pc, L, S, m, h => by
    unfold pt_rn at h
    split at h
    next o ho =>
      refine Go_step ho (fun pc L S m hk => ?_) h
      cases hc : pt_mem pc cu with
      | true => rw [hc] at hk; exact hk
      | false => rw [hc] at hk; exact Go_rn cu n hk
    next => exact h.elim
theorem qe {Q : pt_Q} {x y : Int32} {m : pt_M} (e : x = y) (h : Q (some (zI y)) m) : Q (some (zI x)) m := e ▸ h
