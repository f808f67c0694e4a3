def x_ens {β : Type} (o : Option β) (Q : β → Prop) : Prop := ∃ b, o = some b ∧ Q b
theorem x_ens.so {β : Type} {Q : β → Prop} {b : β} (h : Q b) : x_ens (some b) Q := ⟨b, rfl, h⟩
theorem x_ens.bi {α β : Type} {o : Option α} {f : α → Option β} {P : α → Prop} {Q : β → Prop} (h : x_ens o P) (k : ∀ b, P b → x_ens (f b) Q) : x_ens (o.bind f) Q := by
  obtain ⟨b, e, hb⟩ := h; subst e; exact k b hb
theorem x_ens.be {α β : Type} {o : Option α} {f : α → Option β} {Q : β → Prop} {a : α} (h : o = some a) (k : x_ens (f a) Q) : x_ens (o.bind f) Q := by
  subst h; exact k
theorem x_ens.gr {β : Type} {c : Prop} [Decidable c] {x : Option β} {Q : β → Prop} (hc : ¬ c) (h : x_ens x Q) : x_ens (if c then none else x) Q := by
  rw [if_neg hc]; exact h
theorem x_ens.ok {β : Type} {c : Prop} [Decidable c] {x : Option β} {Q : β → Prop} (hc : c) (h : x_ens x Q) : x_ens (x_ok c x) Q := by
  unfold x_ok; rw [if_pos hc]; exact h
theorem x_ens.it {β : Type} {c : Prop} [Decidable c] {x y : Option β} {Q : β → Prop} (h : c → x_ens x Q) (g : ¬ c → x_ens y Q) : x_ens (if c then x else y) Q := by
  by_cases hc : c
  · rw [if_pos hc]; exact h hc
  · rw [if_neg hc]; exact g hc
theorem x_ens.tt {β : Type} {c : Prop} [Decidable c] {x y : Option β} {Q : β → Prop} (hc : c) (h : x_ens x Q) : x_ens (if c then x else y) Q := by rw [if_pos hc]; exact h
theorem x_ens.ff {β : Type} {c : Prop} [Decidable c] {x y : Option β} {Q : β → Prop} (hc : ¬ c) (h : x_ens y Q) : x_ens (if c then x else y) Q := by rw [if_neg hc]; exact h
theorem x_ens.im {β : Type} {o : Option β} {P Q : β → Prop} (h : x_ens o P) (k : ∀ b, P b → Q b) : x_ens o Q := by
  obtain ⟨b, e, hb⟩ := h; exact ⟨b, e, k b hb⟩
theorem x_ens.lo {α β : Type} {body : α → Option (β ⊕ α)} (I : Nat → α → Prop) {Q : β → Prop} (N : Nat)
    (h : ∀ i a, i ≤ N → I i a → x_ens (body a) (fun o => (∀ b, o = .inl b → Q b) ∧ ∀ a', o = .inr a' → i < N ∧ I (i + 1) a')) :
    ∀ (k n : Nat) (a : α) (i : Nat), i + k = N → k < n → I i a → x_ens (x_it body n a) Q
  | k, 0, a, i, _, hn, _ => by omega
  | k, n + 1, a, i, hk, hn, hI => by
    obtain ⟨o, e, h1, h2⟩ := h i a (by omega) hI
    unfold x_it
    rw [e]
    cases o with
    | inl b => exact ⟨b, rfl, h1 b rfl⟩
    | inr a' =>
      obtain ⟨h3, h4⟩ := h2 a' rfl
      exact x_ens.lo I N h (k - 1) n a' (i + 1) (by omega) (by omega) h4
theorem x_ens.l0 {α β : Type} {body : α → Option (β ⊕ α)} (I : Nat → α → Prop) {Q : β → Prop} (N : Nat) {n : Nat} {a : α} (hn : N < n) (h0 : I 0 a)
    (h : ∀ i a, i ≤ N → I i a → x_ens (body a) (fun o => (∀ b, o = .inl b → Q b) ∧ ∀ a', o = .inr a' → i < N ∧ I (i + 1) a')) : x_ens (x_it body n a) Q :=
  x_ens.lo I N h N n a 0 (by omega) hn h0
theorem x_itE {α β γ : Type} {body : α → Option (β ⊕ α)} (en : Nat → γ → α) (st : Nat → γ → γ) (out : γ → β) (N : Nat)
    (h : ∀ i c, i < N → body (en i c) = some (.inr (en (i + 1) (st i c)))) (h' : ∀ c, body (en N c) = some (.inl (out c))) :
    ∀ (k n : Nat) (i : Nat) (c : γ), i + k = N → k < n → x_it body n (en i c) = some (out (Nat.rec c (fun j r => st (i + j) r) k))
  | k, 0, i, c, _, hn => by omega
  | 0, n + 1, i, c, hk, hn => by
    have : i = N := by omega
    subst this
    unfold x_it; rw [h' c]; rfl
  | k + 1, n + 1, i, c, hk, hn => by
    unfold x_it; rw [h i c (by omega)]
    have := x_itE en st out N h h' k n (i + 1) (st i c) (by omega) (by omega)
    rw [show (some (out (Nat.rec c (fun j r => st (i + j) r) (k + 1))) : Option β) = some (out (Nat.rec (st i c) (fun j r => st (i + 1 + j) r) k)) from ?_]
    · exact this
    · congr 2
      clear this hk hn h h'
      induction k with
      | zero => rfl
      | succ k ih => simp only [] at ih ⊢; rw [← ih]; show st (i + (k+1)) _ = st (i+1+k) _; rw [show i + (k+1) = i + 1 + k by omega]
theorem i_ti {k : Nat} (h : k < 2147483648) : (Int32.ofNat k).toInt = k := Int32.toInt_ofNat_of_lt (by simpa using h)
theorem i_cl {k : Nat} (h : k < 2147483648) : (Int32.ofNat k).toNatClampNeg = k := by
  show (Int32.ofNat k).toInt.toNat = k
  rw [i_ti h]; rfl
theorem i_z : Int32.ofNat 0 = 0 := rfl
theorem i_s {k : Nat} : Int32.ofNat k + 1 = Int32.ofNat (k + 1) := (Int32.ofNat_add k 1).symm
theorem i_p {k : Nat} (h : 0 < k) : Int32.ofNat k - 1 = Int32.ofNat (k - 1) := by
  have : Int32.ofNat k = Int32.ofNat (k - 1) + 1 := by rw [i_s]; congr 1; omega
  rw [this]; grind
theorem i_le {j k : Nat} (h : j < 2147483648) (g : k < 2147483648) : Int32.ofNat j ≤ Int32.ofNat k ↔ j ≤ k := by
  rw [Int32.le_iff_toInt_le, i_ti h, i_ti g]; omega
theorem i_lt {j k : Nat} (h : j < 2147483648) (g : k < 2147483648) : Int32.ofNat j < Int32.ofNat k ↔ j < k := by
  rw [Int32.lt_iff_toInt_lt, i_ti h, i_ti g]; omega
theorem i_ge {k : Nat} (h : k < 2147483648) : ¬ Int32.ofNat k < 0 := by
  rw [← i_z, i_lt h (by omega)]; omega
theorem i_ej {j k : Nat} (h : j < 2147483648) (g : k < 2147483648) : Int32.ofNat j = Int32.ofNat k ↔ j = k := by
  rw [← Int32.toInt_inj, i_ti h, i_ti g]; omega
theorem i_ex {v : Int32} (h : 0 ≤ v) : v = Int32.ofNat v.toNatClampNeg ∧ v.toNatClampNeg < 2147483648 := by
  have h1 : 0 ≤ v.toInt := by rw [Int32.le_iff_toInt_le] at h; exact h
  have h2 : v.toInt < 2147483648 := Int32.toInt_lt v
  have h3 : v.toNatClampNeg = v.toInt.toNat := rfl
  refine ⟨?_, by omega⟩
  rw [← Int32.toInt_inj, i_ti (by omega), h3]; omega
theorem i_ix {k n : Nat} (h : k < n) (hn : n ≤ 2147483648) : ¬ (Int32.ofNat k < 0 ∨ n ≤ (Int32.ofNat k).toNatClampNeg) := by
  rw [i_cl (by omega)]
  rintro (h1 | h1)
  · exact i_ge (by omega) h1
  · omega
theorem i_iv {v : Int32} {n : Nat} (h : 0 ≤ v) (g : v.toNatClampNeg < n) : ¬ (v < 0 ∨ n ≤ v.toNatClampNeg) := by
  rintro (h1 | h1)
  · grind
  · omega
theorem x_nx {α β : Type} {body : α → Option (β ⊕ α)} {n : Nat} {Q : β → Prop} {a : α} (h : ∀ P : β ⊕ α → Prop, (∀ b, Q b → x_ens (some (.inl b)) P) → (∀ a', x_ens (x_it body n a') Q → x_ens (some (.inr a')) P) → x_ens (body a) P) : x_ens (x_it body (n + 1) a) Q := by
  obtain ⟨o, e, h1⟩ := h (fun o => (∀ b, o = .inl b → Q b) ∧ ∀ a', o = .inr a' → x_ens (x_it body n a') Q) (fun b hb => x_ens.so ⟨fun b2 e => (by cases e; exact hb), fun a2 e => (by cases e)⟩) (fun a' ha => x_ens.so ⟨fun b2 e => (by cases e), fun a2 e => (by cases e; exact ha)⟩)
  obtain ⟨h1, h2⟩ := h1
  unfold x_it
  rw [e]
  cases o with
  | inl b => exact ⟨b, rfl, h1 b rfl⟩
  | inr a' => exact h2 a' rfl
def x_iv {α β : Type} (I : Nat → α → Prop) (N : Nat) (Q : β → Prop) (i : Nat) (o : β ⊕ α) : Prop := (∀ b, o = .inl b → Q b) ∧ ∀ a', o = .inr a' → i < N ∧ I (i + 1) a'
theorem x_iv.r {α β : Type} {I : Nat → α → Prop} {N : Nat} {Q : β → Prop} {i : Nat} {a' : α} (hi : i < N) (h : I (i + 1) a') : x_ens (some (.inr a')) (x_iv I N Q i) :=
  x_ens.so ⟨fun b e => (by cases e), fun a2 e => by cases e; exact ⟨hi, h⟩⟩
theorem x_iv.l {α β : Type} {I : Nat → α → Prop} {N : Nat} {Q : β → Prop} {i : Nat} {b : β} (h : Q b) : x_ens (some (.inl b)) (x_iv I N Q i) :=
  x_ens.so ⟨fun b2 e => (by cases e; exact h), fun a2 e => by cases e⟩
theorem x_iv.go {α β : Type} {body : α → Option (β ⊕ α)} (I : Nat → α → Prop) {Q : β → Prop} (N : Nat) {n : Nat} {a : α} (hn : N < n) (h0 : I 0 a)
    (h : ∀ i a, i ≤ N → I i a → x_ens (body a) (x_iv I N Q i)) : x_ens (x_it body n a) Q := x_ens.l0 I N hn h0 h
