/-! What the pure functions and their contracts are made of. -/
/-- a loop, at most n rounds -/
def x_it {α β : Type} (body : α → Option (β ⊕ α)) : Nat → α → Option β
  | 0, _ => none
  | n + 1, a => match body a with
    | none => none
    | some (.inl b) => some b
    | some (.inr a') => x_it body n a'
theorem x_loop {α β : Type} {body : α → Option (β ⊕ α)} {K : β → Prop} {G : α → Prop} (hB : ∀ (a : α) (o : β ⊕ α), body a = some o → (∀ b, o = .inl b → K b) → (∀ a', o = .inr a' → G a') → G a) :
    ∀ (n : Nat) (a : α) (b : β), x_it body n a = some b → K b → G a
  | 0, _, _, h, _ => by cases h
  | n + 1, a, b, h, hK => by
    unfold x_it at h
    split at h
    · cases h
    · rename_i b' hb
      cases h
      exact hB a _ hb (fun b2 e => by cases e; exact hK) (fun a' e => by cases e)
    · rename_i a' hb
      exact hB a _ hb (fun b2 e => by cases e) (fun a2 e => by cases e; exact x_loop hB n a' b h hK)
abbrev x_ok {α : Type} (c : Prop) [Decidable c] (x : Option α) : Option α := if c then x else none
theorem x_ifT {α : Type} {c : Prop} [Decidable c] {x y o : α} (hc : c) (h : (if c then x else y) = o) : x = o := by rw [if_pos hc] at h; exact h
theorem x_ifF {α : Type} {c : Prop} [Decidable c] {x y o : α} (hc : ¬ c) (h : (if c then x else y) = o) : y = o := by rw [if_neg hc] at h; exact h
theorem x_ifn {α : Type} {c : Prop} [Decidable c] {x : Option α} {o : α} (h : (if c then none else x) = some o) : ¬ c ∧ x = some o := by
  by_cases hc : c
  · rw [if_pos hc] at h; cases h
  · rw [if_neg hc] at h; exact ⟨hc, h⟩
theorem x_ift {α : Type} {c : Prop} [Decidable c] {x : Option α} {o : α} (h : (if c then x else none) = some o) : c ∧ x = some o := by
  by_cases hc : c
  · rw [if_pos hc] at h; exact ⟨hc, h⟩
  · rw [if_neg hc] at h; cases h
theorem x_bind {α β : Type} {o : Option α} {f : α → Option β} {b : β} (h : o.bind f = some b) : ∃ a, o = some a ∧ f a = some b := by
  cases o with
  | none => cases h
  | some a => exact ⟨a, rfl, h⟩
theorem x_toNe {x c : Int32} (h : ¬ x = c) {k : Int} (hk : c.toInt = k) : x.toInt ≠ k := fun e => h (Int32.toInt_inj.mp (e.trans hk.symm))
/-- the judgement and the contract over the cells as they are once both objects are made -/
abbrev zW (l : Launch) (s0 : State) (D : va_G) (cA : Nat → ClassId) (sp : Nat → Nat) (QQ : List Frame → Array Value → State → (Nat → Nat) → State → Prop) (R : Room) (M : xM) (bc bs pc : Nat) (ls : List (Option Value)) (st : List Value) (σ : xS) : Prop :=
  x_W CL FK l s0 D cA sp QQ R false M bc bs SH RF pc ls st σ
abbrev zQ (s0 : State) (D : va_G) (cA : Nat → ClassId) (sp : Nat → Nat) (v : Option Value) (σ : xS) : List Frame → Array Value → State → (Nat → Nat) → State → Prop := x_QQ CL FK s0 D cA sp false 0 0 v SH RF σ
abbrev zC (l : Launch) (s0 : State) (D : va_G) (cA : Nat → ClassId) (sp : Nat → Nat) (d : Nat) (M : xM) (as : List Value) (σ : xS) (v : Option Value) (σ1 : xS) : Prop :=
  x_C CL FK l s0 D cA sp d 0 0 false M as SH RF σ v SH RF σ1
section ZR
variable {l : Launch} {s0 : State} {a0 : Array Value} {D : va_G} {cA : Nat → ClassId} {sp : Nat → Nat} {QQ : List Frame → Array Value → State → (Nat → Nat) → State → Prop} {R : Room} {M : xM} {bc bs : Nat} {pc : Nat} {ls : List (Option Value)} {st : List Value} {σ : xS}
theorem z_callV (E : x_En CL l s0 a0 D cA sp) {n np d q ci u : Nat} {N : xM} (as rest : List Value) {v : Option Value} {σ1 : xS} {T : u_T} {nf : Nat} (hd : decode M.2.1 pc = .ok (.invokevirtual n, 3)) (K : x_KV M.1.cls n N np) (F : x_fit d N R)
    (hp : SH[q]? = some (ci, u)) (h50 : ci < 50) (hcl : CL[ci]? = some (N.1.cls, T, nf)) (C : zC l s0 D cA sp d N (.ref q :: as) σ v σ1) (hn : as.length = np) (hst : as.reverse ++ .ref q :: rest = st) (hw : (rest.map fun v => v.category).sum ≤ 8)
    (pc' : Nat) (hpc : pc + 3 = pc') (st' : List Value) (hs : v.toList ++ rest = st') (kk : zW l s0 D cA sp QQ R M bc bs pc' ls st' σ1) : zW l s0 D cA sp QQ R M bc bs pc ls st σ := by
  subst hs
  exact x_callV (bc := bc) (bs := bs) (mc := 0) (ms := 0) E hd K F hp h50 hcl hn hst hw C pc' hpc kk
theorem z_callS (E : x_En CL l s0 a0 D cA sp) {n np d : Nat} {N : xM} (as rest : List Value) {v : Option Value} {σ1 : xS} (hd : decode M.2.1 pc = .ok (.invokestatic n, 3)) (K : x_KS M.1.cls n N np) (F : x_fit d N R)
    (C : zC l s0 D cA sp d N as σ v σ1) (hn : as.length = np) (hst : as.reverse ++ rest = st) (hw : (rest.map fun v => v.category).sum ≤ 8)
    (pc' : Nat) (hpc : pc + 3 = pc') (st' : List Value) (hs : v.toList ++ rest = st') (kk : zW l s0 D cA sp QQ R M bc bs pc' ls st' σ1) : zW l s0 D cA sp QQ R M bc bs pc ls st σ := by
  subst hs
  exact x_callS (bc := bc) (bs := bs) (mc := 0) (ms := 0) E hd K F hn hst hw C pc' hpc kk
end ZR
