theorem law_loop {l : Launch} {s0 : State} {a0 : Array Value} {D : va_G} {cA : Nat → ClassId} {sp : Nat → Nat} (E : x_En CL l s0 a0 D cA sp) (S : x_Sw s0 sp) {xs : Nat → Int32} {L : Nat} (Z : x_Sc s0 sp L xs) :
    ∀ (n : Nat) (a b : Int32 × xS), x_it (f_law xs L) n a = some b → zW l s0 D cA sp (x_QL s0) room_1 M_La_law n (6 * n) 23 [some (.ref 1500), some (.ref 0), some (.ref 60), some (.ref 96), some (.int a.1), none, none] [] a.2
  | 0, _, _, h => by cases h
  | n + 1, a, b, h => by
    rw [Nat.mul_succ]
    unfold x_it at h
    split at h
    · cases h
    · rename_i b' hb
      refine b_law E S Z a _ hb (fun b2 e => ?_) (fun a' e => by cases e)
      refine x_iconst (2211 + 1) rfl (v := 1) dL_law_2211 (by decide) ?_
      exact x_lawret (by decide +kernel)
    · rename_i a' hb
      refine b_law E S Z a _ hb (fun b2 e => by cases e) (fun a2 e => ?_)
      cases e
      exact law_loop E S Z n a' b h
