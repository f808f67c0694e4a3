/-! Which cells the functions leave as they were. Written by wip/gen/frames.py. -/
def x_in (W : List (Nat × Nat)) (p k : Nat) : Bool := W.any fun w => w.1 == p && (w.2 == 99999 || w.2 == k)
/-- all but the places W are as they were -/
def x_fr (W : List (Nat × Nat)) (σ τ : xS) : Prop := (∀ p k : Nat, x_in W p k = false → τ.1 p k = σ.1 p k) ∧ ∀ p k : Nat, x_in W p k = false → τ.2 p k = σ.2 p k
theorem x_fr.rf {W : List (Nat × Nat)} {σ : xS} : x_fr W σ σ := ⟨fun _ _ _ => rfl, fun _ _ _ => rfl⟩
theorem x_fr.trans {W : List (Nat × Nat)} {σ τ υ : xS} (h : x_fr W σ τ) (g : x_fr W τ υ) : x_fr W σ υ := ⟨fun p k e => (g.1 p k e).trans (h.1 p k e), fun p k e => (g.2 p k e).trans (h.2 p k e)⟩
theorem x_in_sub {W V : List (Nat × Nat)} (hs : (V.all fun w => x_in W w.1 w.2 || x_in W w.1 99999) = true) {p k : Nat} (h : x_in W p k = false) : x_in V p k = false := by
  cases hv : x_in V p k with
  | false => rfl
  | true =>
    exfalso
    unfold x_in at hv
    rw [List.any_eq_true] at hv
    obtain ⟨w, hw, h1⟩ := hv
    have h2 := List.all_eq_true.mp hs w hw
    simp only [Bool.and_eq_true, beq_iff_eq, Bool.or_eq_true] at h1
    obtain ⟨e1, h3⟩ := h1
    subst e1
    have key : ∀ v ∈ W, v.1 = w.1 → v.2 = 99999 ∨ v.2 = k → False := fun v hv9 e h4 => by
      have : x_in W w.1 k = true := by
        unfold x_in
        rw [List.any_eq_true]
        refine ⟨v, hv9, ?_⟩
        rcases h4 with h4 | h4 <;> simp [e, h4]
      rw [h] at this
      cases this
    rw [Bool.or_eq_true] at h2
    rcases h2 with h2 | h2 <;>
    · unfold x_in at h2
      rw [List.any_eq_true] at h2
      obtain ⟨v, hv9, h5⟩ := h2
      simp only [Bool.and_eq_true, beq_iff_eq, Bool.or_eq_true] at h5
      rcases h3 with h3 | h3
      · refine key v hv9 h5.1 (Or.inl ?_)
        rcases h5.2 with h6 | h6
        · exact h6
        · omega
      · refine key v hv9 h5.1 ?_
        rcases h5.2 with h6 | h6
        · exact Or.inl h6
        · omega
theorem x_fr.sub {W V : List (Nat × Nat)} {σ τ : xS} (hs : (V.all fun w => x_in W w.1 w.2 || x_in W w.1 99999) = true) (h : x_fr V σ τ) : x_fr W σ τ := ⟨fun p k e => h.1 p k (x_in_sub hs e), fun p k e => h.2 p k (x_in_sub hs e)⟩
theorem x_fr.su {W V : List (Nat × Nat)} {σ τ : xS} (h : x_fr V σ τ) (hs : (V.all fun w => x_in W w.1 w.2 || x_in W w.1 99999) = true) : x_fr W σ τ := x_fr.sub hs h
theorem x_frI {W : List (Nat × Nat)} {σ τ : xS} {p k : Nat} {v : Int32} (hk : x_in W p k = true) (h : x_fr W σ τ) : x_fr W σ (x_pI τ p k v) := by
  refine ⟨fun a b e => ?_, h.2⟩
  by_cases hc : a = p ∧ b = k
  · obtain ⟨rfl, rfl⟩ := hc
    rw [hk] at e; cases e
  · exact (if_neg hc).trans (h.1 a b e)
theorem x_frL {W : List (Nat × Nat)} {σ τ : xS} {p k : Nat} {v : Int64} (hk : x_in W p k = true) (h : x_fr W σ τ) : x_fr W σ (x_pL τ p k v) := by
  refine ⟨h.1, fun a b e => ?_⟩
  by_cases hc : a = p ∧ b = k
  · obtain ⟨rfl, rfl⟩ := hc
    rw [hk] at e; cases e
  · exact (if_neg hc).trans (h.2 a b e)
theorem x_frC {W : List (Nat × Nat)} {σ τ : xS} {a b n : Nat} (hk : ∀ k : Nat, x_in W b k = true) (h : x_fr W σ τ) : x_fr W σ (x_cp τ a b n) := by
  refine ⟨fun p k e => ?_, h.2⟩
  by_cases hc : p = b ∧ k < n
  · rw [hc.1, hk] at e; cases e
  · exact (if_neg hc).trans (h.1 p k e)
def x_frO {α β : Type} (W : List (Nat × Nat)) (sA : α → xS) (sB : β → xS) (σ : xS) (o : β ⊕ α) : Prop := match o with
  | .inl b => x_fr W σ (sB b)
  | .inr a => x_fr W σ (sA a)
theorem x_frO.a {α β : Type} {W : List (Nat × Nat)} {sA : α → xS} {sB : β → xS} {σ : xS} {a : α} (h : x_fr W σ (sA a)) : x_frO W sA sB σ (.inr a) := h
theorem x_frO.b {α β : Type} {W : List (Nat × Nat)} {sA : α → xS} {sB : β → xS} {σ : xS} {b : β} (h : x_fr W σ (sB b)) : x_frO W sA sB σ (.inl b) := h
theorem x_frO.tr {α β : Type} {W : List (Nat × Nat)} {sA : α → xS} {sB : β → xS} {σ τ : xS} {o : β ⊕ α} (h : x_fr W σ τ) (g : x_frO W sA sB τ o) : x_frO W sA sB σ o := by
  cases o with
  | inl b => exact x_fr.trans h g
  | inr a => exact x_fr.trans h g
theorem x_frO.sub {α β : Type} {W V : List (Nat × Nat)} {sA : α → xS} {sB : β → xS} {σ : xS} {o : β ⊕ α} (hs : (V.all fun w => x_in W w.1 w.2 || x_in W w.1 99999) = true) (g : x_frO V sA sB σ o) : x_frO W sA sB σ o := by
  cases o with
  | inl b => exact x_fr.sub hs g
  | inr a => exact x_fr.sub hs g
theorem x_itF {α β : Type} {W : List (Nat × Nat)} {sA : α → xS} {sB : β → xS} {body : α → Option (β ⊕ α)} (hB : ∀ (a : α) (o : β ⊕ α), body a = some o → x_frO W sA sB (sA a) o) : ∀ (n : Nat) (a : α) (b : β), x_it body n a = some b → x_fr W (sA a) (sB b)
  | 0, _, _, h => by cases h
  | n + 1, a, b, h => by
    unfold x_it at h
    split at h
    · cases h
    · rename_i b' hb
      cases h
      exact hB a _ hb
    · rename_i a' hb
      exact x_fr.trans (hB a _ hb) (x_itF hB n a' b h)
theorem x_frO.a1 {A0 β : Type} {W : List (Nat × Nat)} {sB : β → xS} {σ s : xS} {x0 : A0} (h : x_fr W σ s) : x_frO W (fun a : A0 × xS => a.2) sB σ (.inr (x0, s)) := h
theorem x_frO.a2 {A0 A1 β : Type} {W : List (Nat × Nat)} {sB : β → xS} {σ s : xS} {x0 : A0} {x1 : A1} (h : x_fr W σ s) : x_frO W (fun a : A0 × A1 × xS => a.2.2) sB σ (.inr (x0, x1, s)) := h
theorem x_frO.a3 {A0 A1 A2 β : Type} {W : List (Nat × Nat)} {sB : β → xS} {σ s : xS} {x0 : A0} {x1 : A1} {x2 : A2} (h : x_fr W σ s) : x_frO W (fun a : A0 × A1 × A2 × xS => a.2.2.2) sB σ (.inr (x0, x1, x2, s)) := h
theorem x_frO.a4 {A0 A1 A2 A3 β : Type} {W : List (Nat × Nat)} {sB : β → xS} {σ s : xS} {x0 : A0} {x1 : A1} {x2 : A2} {x3 : A3} (h : x_fr W σ s) : x_frO W (fun a : A0 × A1 × A2 × A3 × xS => a.2.2.2.2) sB σ (.inr (x0, x1, x2, x3, s)) := h
theorem x_frO.a5 {A0 A1 A2 A3 A4 β : Type} {W : List (Nat × Nat)} {sB : β → xS} {σ s : xS} {x0 : A0} {x1 : A1} {x2 : A2} {x3 : A3} {x4 : A4} (h : x_fr W σ s) : x_frO W (fun a : A0 × A1 × A2 × A3 × A4 × xS => a.2.2.2.2.2) sB σ (.inr (x0, x1, x2, x3, x4, s)) := h
theorem x_frO.a6 {A0 A1 A2 A3 A4 A5 β : Type} {W : List (Nat × Nat)} {sB : β → xS} {σ s : xS} {x0 : A0} {x1 : A1} {x2 : A2} {x3 : A3} {x4 : A4} {x5 : A5} (h : x_fr W σ s) : x_frO W (fun a : A0 × A1 × A2 × A3 × A4 × A5 × xS => a.2.2.2.2.2.2) sB σ (.inr (x0, x1, x2, x3, x4, x5, s)) := h
theorem x_frO.a7 {A0 A1 A2 A3 A4 A5 A6 β : Type} {W : List (Nat × Nat)} {sB : β → xS} {σ s : xS} {x0 : A0} {x1 : A1} {x2 : A2} {x3 : A3} {x4 : A4} {x5 : A5} {x6 : A6} (h : x_fr W σ s) : x_frO W (fun a : A0 × A1 × A2 × A3 × A4 × A5 × A6 × xS => a.2.2.2.2.2.2.2) sB σ (.inr (x0, x1, x2, x3, x4, x5, x6, s)) := h
theorem x_frO.a8 {A0 A1 A2 A3 A4 A5 A6 A7 β : Type} {W : List (Nat × Nat)} {sB : β → xS} {σ s : xS} {x0 : A0} {x1 : A1} {x2 : A2} {x3 : A3} {x4 : A4} {x5 : A5} {x6 : A6} {x7 : A7} (h : x_fr W σ s) : x_frO W (fun a : A0 × A1 × A2 × A3 × A4 × A5 × A6 × A7 × xS => a.2.2.2.2.2.2.2.2) sB σ (.inr (x0, x1, x2, x3, x4, x5, x6, x7, s)) := h
theorem x_frO.su {α β : Type} {W V : List (Nat × Nat)} {sA : α → xS} {sB : β → xS} {σ : xS} {o : β ⊕ α} (g : x_frO V sA sB σ o) (hs : (V.all fun w => x_in W w.1 w.2 || x_in W w.1 99999) = true) : x_frO W sA sB σ o := x_frO.sub hs g
theorem x_iteC {α : Type} {c : Prop} [Decidable c] {x y o : α} {G : Prop} (h : (if c then x else y) = o) (ht : x = o → G) (hf : y = o → G) : G := by
  by_cases hc : c
  · rw [if_pos hc] at h; exact ht h
  · rw [if_neg hc] at h; exact hf h
set_option maxHeartbeats 4000000 in
set_option maxRecDepth 100000 in
theorem fr_Mo_thrown_60 {σ : xS} {r : Int32 × xS} (h : f_Mo_thrown_60 σ = some r) : x_fr [] σ r.2 := by
  unfold f_Mo_thrown_60 at h
  try dsimp only at h
  cases h
  exact x_fr.rf
set_option maxHeartbeats 4000000 in
set_option maxRecDepth 100000 in
theorem fr_Mo_right_60 {v1 : Int32} {v2 : Int32} {σ : xS} {r : Int32 × xS} (h : f_Mo_right_60 v1 v2 σ = some r) : x_fr [(60, 0)] σ r.2 := by
  unfold f_Mo_right_60 at h
  try dsimp only at h
  refine x_iteC h (fun h => ?_) (fun h => ?_)
  · skip
    refine x_iteC h (fun h => ?_) (fun h => ?_)
    · skip
      refine x_iteC h (fun h => ?_) (fun h => ?_)
      · skip
        cases h
        exact (x_frI (p := 60) (k := 0) rfl x_fr.rf)
      · skip
        cases h
        exact (x_frI (p := 60) (k := 0) rfl x_fr.rf)
    · skip
      refine x_iteC h (fun h => ?_) (fun h => ?_)
      · skip
        cases h
        exact x_fr.rf
      · skip
        cases h
        exact x_fr.rf
  · skip
    refine x_iteC h (fun h => ?_) (fun h => ?_)
    · skip
      cases h
      exact x_fr.rf
    · skip
      cases h
      exact x_fr.rf
set_option maxHeartbeats 4000000 in
set_option maxRecDepth 100000 in
theorem fr_Mo_within {v0 : Int32} {v1 : Int32} {v2 : Int32} {σ : xS} {r : Int32 × xS} (h : f_Mo_within v0 v1 v2 σ = some r) : x_fr [] σ r.2 := by
  unfold f_Mo_within at h
  try dsimp only at h
  refine x_iteC h (fun h => ?_) (fun h => ?_)
  · skip
    cases h
    exact x_fr.rf
  · skip
    refine x_iteC h (fun h => ?_) (fun h => ?_)
    · skip
      cases h
      exact x_fr.rf
    · skip
      cases h
      exact x_fr.rf
set_option maxHeartbeats 4000000 in
set_option maxRecDepth 100000 in
theorem fr_Mo_off {v0 : Int32} {v1 : Int32} {σ : xS} {r : Int32 × xS} (h : f_Mo_off v0 v1 σ = some r) : x_fr [] σ r.2 := by
  unfold f_Mo_off at h
  try dsimp only at h
  refine x_iteC h (fun h => ?_) (fun h => ?_)
  · skip
    cases h
    exact x_fr.rf
  · skip
    cases h
    exact x_fr.rf
set_option maxHeartbeats 4000000 in
set_option maxRecDepth 100000 in
theorem fr_Mo_bounded {v0 : Int32} {v1 : Int32} {v2 : Int32} {σ : xS} {r : Int32 × xS} (h : f_Mo_bounded v0 v1 v2 σ = some r) : x_fr [] σ r.2 := by
  unfold f_Mo_bounded at h
  try dsimp only at h
  refine x_iteC h (fun h => ?_) (fun h => ?_)
  · skip
    refine x_iteC h (fun h => ?_) (fun h => ?_)
    · skip
      cases h
      exact x_fr.rf
    · skip
      cases h
      exact x_fr.rf
  · skip
    cases h
    exact x_fr.rf
set_option maxHeartbeats 4000000 in
set_option maxRecDepth 100000 in
theorem fr_Mo_lays_60_L3 {v1 : Int32} {a : Int32 × xS} {o : (Int32 × xS) ⊕ (Int32 × xS)} (h : f_Mo_lays_60_L3 v1 a = some o) : x_frO [(60, 15), (67, 99999)] (fun a => a.2) (fun b => b.2) a.2 o := by
  unfold f_Mo_lays_60_L3 at h
  try dsimp only at h
  refine x_iteC h (fun h => ?_) (fun h => ?_)
  · skip
    cases h
    exact x_frO.b x_fr.rf
  · skip
    obtain ⟨-, h⟩ := x_ifn h
    cases h
    exact x_frO.a1 (x_frI (p := 60) (k := 15) rfl (x_frI (p := 67) rfl x_fr.rf))
set_option maxHeartbeats 4000000 in
set_option maxRecDepth 100000 in
theorem fr_Mo_lays_60 {v1 : Int32} {σ : xS} {r : Unit × xS} (h : f_Mo_lays_60 v1 σ = some r) : x_fr [(60, 15), (67, 99999)] σ r.2 := by
  unfold f_Mo_lays_60 at h
  try dsimp only at h
  obtain ⟨b4, b4h, h⟩ := x_bind h
  try dsimp only at h
  have b4f := x_itF (sA := (fun a => a.2)) (sB := (fun b => b.2)) (fun a o h => fr_Mo_lays_60_L3 h) _ _ _ b4h
  cases h
  exact (x_fr.trans x_fr.rf (x_fr.su b4f rfl))
set_option maxHeartbeats 4000000 in
set_option maxRecDepth 100000 in
theorem fr_Mo_feed_60 {v1 : Int32} {v2 : Int32} {v3 : Int32} {v4 : Int32} {v5 : Int32} {σ : xS} {r : Int32 × xS} (h : f_Mo_feed_60 v1 v2 v3 v4 v5 σ = some r) : x_fr [(60, 0), (60, 15), (67, 99999)] σ r.2 := by
  unfold f_Mo_feed_60 at h
  try dsimp only at h
  refine x_iteC h (fun h => ?_) (fun h => ?_)
  · skip
    obtain ⟨q2, q2h, h⟩ := x_bind h
    try dsimp only at h
    have q2f := fr_Mo_lays_60 q2h
    obtain ⟨q3, q3h, h⟩ := x_bind h
    try dsimp only at h
    have q3f := fr_Mo_lays_60 q3h
    obtain ⟨q4, q4h, h⟩ := x_bind h
    try dsimp only at h
    have q4f := fr_Mo_lays_60 q4h
    obtain ⟨q5, q5h, h⟩ := x_bind h
    try dsimp only at h
    have q5f := fr_Mo_lays_60 q5h
    obtain ⟨q6, q6h, h⟩ := x_bind h
    try dsimp only at h
    have q6f := fr_Mo_lays_60 q6h
    cases h
    exact (x_fr.trans (x_fr.trans (x_fr.trans (x_fr.trans (x_fr.trans (x_frI (p := 60) (k := 0) rfl x_fr.rf) (x_fr.su q2f rfl)) (x_fr.su q3f rfl)) (x_fr.su q4f rfl)) (x_fr.su q5f rfl)) (x_fr.su q6f rfl))
  · skip
    cases h
    exact (x_frI (p := 60) (k := 0) rfl x_fr.rf)
set_option maxHeartbeats 4000000 in
set_option maxRecDepth 100000 in
theorem fr_Mo_byteAt_60 {v1 : Int32} {σ : xS} {r : Int32 × xS} (h : f_Mo_byteAt_60 v1 σ = some r) : x_fr [] σ r.2 := by
  unfold f_Mo_byteAt_60 at h
  try dsimp only at h
  refine x_iteC h (fun h => ?_) (fun h => ?_)
  · skip
    cases h
    exact x_fr.rf
  · skip
    obtain ⟨-, h⟩ := x_ifn h
    cases h
    exact x_fr.rf
set_option maxHeartbeats 4000000 in
set_option maxRecDepth 100000 in
theorem fr_Mo_isLetter {v0 : Int32} {σ : xS} {r : Int32 × xS} (h : f_Mo_isLetter v0 σ = some r) : x_fr [] σ r.2 := by
  unfold f_Mo_isLetter at h
  try dsimp only at h
  refine x_iteC h (fun h => ?_) (fun h => ?_)
  · skip
    cases h
    exact x_fr.rf
  · skip
    refine x_iteC h (fun h => ?_) (fun h => ?_)
    · skip
      cases h
      exact x_fr.rf
    · skip
      cases h
      exact x_fr.rf
set_option maxHeartbeats 4000000 in
set_option maxRecDepth 100000 in
theorem fr_Mo_isDigit {v0 : Int32} {σ : xS} {r : Int32 × xS} (h : f_Mo_isDigit v0 σ = some r) : x_fr [] σ r.2 := by
  unfold f_Mo_isDigit at h
  try dsimp only at h
  refine x_iteC h (fun h => ?_) (fun h => ?_)
  · skip
    cases h
    exact x_fr.rf
  · skip
    refine x_iteC h (fun h => ?_) (fun h => ?_)
    · skip
      cases h
      exact x_fr.rf
    · skip
      cases h
      exact x_fr.rf
set_option maxHeartbeats 4000000 in
set_option maxRecDepth 100000 in
theorem fr_Mo_goes_60_L0 {a : xS} {o : (xS) ⊕ (xS)} (h : f_Mo_goes_60_L0 a = some o) : x_frO [(60, 20)] (fun a => a) (fun b => b) a o := by
  unfold f_Mo_goes_60_L0 at h
  try dsimp only at h
  refine x_iteC h (fun h => ?_) (fun h => ?_)
  · skip
    cases h
    exact x_frO.b x_fr.rf
  · skip
    obtain ⟨q1, q1h, h⟩ := x_bind h
    try dsimp only at h
    have q1f := fr_Mo_byteAt_60 q1h
    refine x_iteC h (fun h => ?_) (fun h => ?_)
    · skip
      cases h
      exact x_frO.a (x_frI (p := 60) (k := 20) rfl (x_fr.trans x_fr.rf (x_fr.su q1f rfl)))
    · skip
      obtain ⟨q3, q3h, h⟩ := x_bind h
      try dsimp only at h
      have q3f := fr_Mo_byteAt_60 q3h
      refine x_iteC h (fun h => ?_) (fun h => ?_)
      · skip
        cases h
        exact x_frO.a (x_frI (p := 60) (k := 20) rfl (x_fr.trans (x_fr.trans x_fr.rf (x_fr.su q1f rfl)) (x_fr.su q3f rfl)))
      · skip
        cases h
        exact x_frO.b (x_fr.trans (x_fr.trans x_fr.rf (x_fr.su q1f rfl)) (x_fr.su q3f rfl))
set_option maxHeartbeats 4000000 in
set_option maxRecDepth 100000 in
theorem fr_Mo_goes_60_L187 {a : xS} {o : (xS) ⊕ (xS)} (h : f_Mo_goes_60_L187 a = some o) : x_frO [(60, 20), (60, 24)] (fun a => a) (fun b => b) a o := by
  unfold f_Mo_goes_60_L187 at h
  try dsimp only at h
  obtain ⟨q5, q5h, h⟩ := x_bind h
  try dsimp only at h
  have q5f := fr_Mo_byteAt_60 q5h
  obtain ⟨q6, q6h, h⟩ := x_bind h
  try dsimp only at h
  have q6f := fr_Mo_isDigit q6h
  refine x_iteC h (fun h => ?_) (fun h => ?_)
  · skip
    cases h
    exact x_frO.b (x_fr.trans (x_fr.trans x_fr.rf (x_fr.su q5f rfl)) (x_fr.su q6f rfl))
  · skip
    refine x_iteC h (fun h => ?_) (fun h => ?_)
    · skip
      cases h
      exact x_frO.a (x_frI (p := 60) (k := 20) rfl (x_fr.trans (x_fr.trans x_fr.rf (x_fr.su q5f rfl)) (x_fr.su q6f rfl)))
    · skip
      obtain ⟨q8, q8h, h⟩ := x_bind h
      try dsimp only at h
      have q8f := fr_Mo_byteAt_60 q8h
      cases h
      exact x_frO.a (x_frI (p := 60) (k := 20) rfl (x_frI (p := 60) (k := 24) rfl (x_fr.trans (x_fr.trans (x_fr.trans x_fr.rf (x_fr.su q5f rfl)) (x_fr.su q6f rfl)) (x_fr.su q8f rfl))))
set_option maxHeartbeats 4000000 in
set_option maxRecDepth 100000 in
theorem fr_Mo_goes_60_L108 {a : xS} {o : (xS) ⊕ (xS)} (h : f_Mo_goes_60_L108 a = some o) : x_frO [(60, 20), (60, 26)] (fun a => a) (fun b => b) a o := by
  unfold f_Mo_goes_60_L108 at h
  try dsimp only at h
  obtain ⟨q11, q11h, h⟩ := x_bind h
  try dsimp only at h
  have q11f := fr_Mo_byteAt_60 q11h
  obtain ⟨q12, q12h, h⟩ := x_bind h
  try dsimp only at h
  have q12f := fr_Mo_isLetter q12h
  refine x_iteC h (fun h => ?_) (fun h => ?_)
  · skip
    cases h
    exact x_frO.b (x_fr.trans (x_fr.trans x_fr.rf (x_fr.su q11f rfl)) (x_fr.su q12f rfl))
  · skip
    refine x_iteC h (fun h => ?_) (fun h => ?_)
    · skip
      cases h
      exact x_frO.a (x_frI (p := 60) (k := 20) rfl (x_fr.trans (x_fr.trans x_fr.rf (x_fr.su q11f rfl)) (x_fr.su q12f rfl)))
    · skip
      obtain ⟨q14, q14h, h⟩ := x_bind h
      try dsimp only at h
      have q14f := fr_Mo_byteAt_60 q14h
      cases h
      exact x_frO.a (x_frI (p := 60) (k := 20) rfl (x_frL (p := 60) (k := 26) rfl (x_fr.trans (x_fr.trans (x_fr.trans x_fr.rf (x_fr.su q11f rfl)) (x_fr.su q12f rfl)) (x_fr.su q14f rfl))))
set_option maxHeartbeats 4000000 in
set_option maxRecDepth 100000 in
theorem fr_Mo_goes_60_J323 {σ : xS} {r : Unit × xS} (h : f_Mo_goes_60_J323 σ = some r) : x_fr [(60, 21), (60, 23)] σ r.2 := by
  unfold f_Mo_goes_60_J323 at h
  try dsimp only at h
  cases h
  exact (x_frI (p := 60) (k := 23) rfl (x_frI (p := 60) (k := 21) rfl x_fr.rf))
set_option maxHeartbeats 4000000 in
set_option maxRecDepth 100000 in
theorem fr_Mo_goes_60_J50 {σ : xS} {r : Unit × xS} (h : f_Mo_goes_60_J50 σ = some r) : x_fr [(60, 20), (60, 21), (60, 22), (60, 23), (60, 24), (60, 25), (60, 26)] σ r.2 := by
  unfold f_Mo_goes_60_J50 at h
  try dsimp only at h
  obtain ⟨q22, q22h, h⟩ := x_bind h
  try dsimp only at h
  have q22f := fr_Mo_byteAt_60 q22h
  refine x_iteC h (fun h => ?_) (fun h => ?_)
  · skip
    obtain ⟨q25, q25h, h⟩ := x_bind h
    try dsimp only at h
    have q25f := fr_Mo_isLetter q25h
    refine x_iteC h (fun h => ?_) (fun h => ?_)
    · skip
      obtain ⟨q26, q26h, h⟩ := x_bind h
      try dsimp only at h
      have q26f := fr_Mo_isDigit q26h
      refine x_iteC h (fun h => ?_) (fun h => ?_)
      · skip
        refine x_iteC h (fun h => ?_) (fun h => ?_)
        · skip
          exact x_fr.trans (x_frI (p := 60) (k := 20) rfl (x_fr.trans (x_fr.trans (x_frI (p := 60) (k := 25) rfl (x_fr.trans (x_frI (p := 60) (k := 24) rfl (x_frL (p := 60) (k := 26) rfl (x_frI (p := 60) (k := 22) rfl x_fr.rf))) (x_fr.su q22f rfl))) (x_fr.su q25f rfl)) (x_fr.su q26f rfl))) (x_fr.su (fr_Mo_goes_60_J323 h) rfl)
        · skip
          refine x_iteC h (fun h => ?_) (fun h => ?_)
          · skip
            exact x_fr.trans (x_frI (p := 60) (k := 20) rfl (x_fr.trans (x_fr.trans (x_frI (p := 60) (k := 25) rfl (x_fr.trans (x_frI (p := 60) (k := 24) rfl (x_frL (p := 60) (k := 26) rfl (x_frI (p := 60) (k := 22) rfl x_fr.rf))) (x_fr.su q22f rfl))) (x_fr.su q25f rfl)) (x_fr.su q26f rfl))) (x_fr.su (fr_Mo_goes_60_J323 h) rfl)
          · skip
            refine x_iteC h (fun h => ?_) (fun h => ?_)
            · skip
              exact x_fr.trans (x_frI (p := 60) (k := 20) rfl (x_fr.trans (x_fr.trans (x_frI (p := 60) (k := 25) rfl (x_fr.trans (x_frI (p := 60) (k := 24) rfl (x_frL (p := 60) (k := 26) rfl (x_frI (p := 60) (k := 22) rfl x_fr.rf))) (x_fr.su q22f rfl))) (x_fr.su q25f rfl)) (x_fr.su q26f rfl))) (x_fr.su (fr_Mo_goes_60_J323 h) rfl)
            · skip
              refine x_iteC h (fun h => ?_) (fun h => ?_)
              · skip
                exact x_fr.trans (x_frI (p := 60) (k := 20) rfl (x_fr.trans (x_fr.trans (x_frI (p := 60) (k := 25) rfl (x_fr.trans (x_frI (p := 60) (k := 24) rfl (x_frL (p := 60) (k := 26) rfl (x_frI (p := 60) (k := 22) rfl x_fr.rf))) (x_fr.su q22f rfl))) (x_fr.su q25f rfl)) (x_fr.su q26f rfl))) (x_fr.su (fr_Mo_goes_60_J323 h) rfl)
              · skip
                refine x_iteC h (fun h => ?_) (fun h => ?_)
                · skip
                  exact x_fr.trans (x_frI (p := 60) (k := 20) rfl (x_fr.trans (x_fr.trans (x_frI (p := 60) (k := 25) rfl (x_fr.trans (x_frI (p := 60) (k := 24) rfl (x_frL (p := 60) (k := 26) rfl (x_frI (p := 60) (k := 22) rfl x_fr.rf))) (x_fr.su q22f rfl))) (x_fr.su q25f rfl)) (x_fr.su q26f rfl))) (x_fr.su (fr_Mo_goes_60_J323 h) rfl)
                · skip
                  refine x_iteC h (fun h => ?_) (fun h => ?_)
                  · skip
                    exact x_fr.trans (x_frI (p := 60) (k := 20) rfl (x_fr.trans (x_fr.trans (x_frI (p := 60) (k := 25) rfl (x_fr.trans (x_frI (p := 60) (k := 24) rfl (x_frL (p := 60) (k := 26) rfl (x_frI (p := 60) (k := 22) rfl x_fr.rf))) (x_fr.su q22f rfl))) (x_fr.su q25f rfl)) (x_fr.su q26f rfl))) (x_fr.su (fr_Mo_goes_60_J323 h) rfl)
                  · skip
                    refine x_iteC h (fun h => ?_) (fun h => ?_)
                    · skip
                      exact x_fr.trans (x_frI (p := 60) (k := 20) rfl (x_fr.trans (x_fr.trans (x_frI (p := 60) (k := 25) rfl (x_fr.trans (x_frI (p := 60) (k := 24) rfl (x_frL (p := 60) (k := 26) rfl (x_frI (p := 60) (k := 22) rfl x_fr.rf))) (x_fr.su q22f rfl))) (x_fr.su q25f rfl)) (x_fr.su q26f rfl))) (x_fr.su (fr_Mo_goes_60_J323 h) rfl)
                    · skip
                      refine x_iteC h (fun h => ?_) (fun h => ?_)
                      · skip
                        exact x_fr.trans (x_frI (p := 60) (k := 20) rfl (x_fr.trans (x_fr.trans (x_frI (p := 60) (k := 25) rfl (x_fr.trans (x_frI (p := 60) (k := 24) rfl (x_frL (p := 60) (k := 26) rfl (x_frI (p := 60) (k := 22) rfl x_fr.rf))) (x_fr.su q22f rfl))) (x_fr.su q25f rfl)) (x_fr.su q26f rfl))) (x_fr.su (fr_Mo_goes_60_J323 h) rfl)
                      · skip
                        refine x_iteC h (fun h => ?_) (fun h => ?_)
                        · skip
                          exact x_fr.trans (x_frI (p := 60) (k := 20) rfl (x_fr.trans (x_fr.trans (x_frI (p := 60) (k := 25) rfl (x_fr.trans (x_frI (p := 60) (k := 24) rfl (x_frL (p := 60) (k := 26) rfl (x_frI (p := 60) (k := 22) rfl x_fr.rf))) (x_fr.su q22f rfl))) (x_fr.su q25f rfl)) (x_fr.su q26f rfl))) (x_fr.su (fr_Mo_goes_60_J323 h) rfl)
                        · skip
                          cases h
                          exact (x_frI (p := 60) (k := 23) rfl (x_frI (p := 60) (k := 21) rfl (x_frI (p := 60) (k := 20) rfl (x_fr.trans (x_fr.trans (x_frI (p := 60) (k := 25) rfl (x_fr.trans (x_frI (p := 60) (k := 24) rfl (x_frL (p := 60) (k := 26) rfl (x_frI (p := 60) (k := 22) rfl x_fr.rf))) (x_fr.su q22f rfl))) (x_fr.su q25f rfl)) (x_fr.su q26f rfl)))))
      · skip
        obtain ⟨b30, b30h, h⟩ := x_bind h
        try dsimp only at h
        have b30f := x_itF (sA := (fun a => a)) (sB := (fun b => b)) (fun a o h => fr_Mo_goes_60_L187 h) _ _ _ b30h
        cases h
        exact (x_frI (p := 60) (k := 23) rfl (x_frI (p := 60) (k := 21) rfl (x_fr.trans (x_fr.trans (x_fr.trans (x_frI (p := 60) (k := 25) rfl (x_fr.trans (x_frI (p := 60) (k := 24) rfl (x_frL (p := 60) (k := 26) rfl (x_frI (p := 60) (k := 22) rfl x_fr.rf))) (x_fr.su q22f rfl))) (x_fr.su q25f rfl)) (x_fr.su q26f rfl)) (x_fr.su b30f rfl))))
    · skip
      obtain ⟨b33, b33h, h⟩ := x_bind h
      try dsimp only at h
      have b33f := x_itF (sA := (fun a => a)) (sB := (fun b => b)) (fun a o h => fr_Mo_goes_60_L108 h) _ _ _ b33h
      cases h
      exact (x_frI (p := 60) (k := 23) rfl (x_frI (p := 60) (k := 21) rfl (x_fr.trans (x_fr.trans (x_frI (p := 60) (k := 25) rfl (x_fr.trans (x_frI (p := 60) (k := 24) rfl (x_frL (p := 60) (k := 26) rfl (x_frI (p := 60) (k := 22) rfl x_fr.rf))) (x_fr.su q22f rfl))) (x_fr.su q25f rfl)) (x_fr.su b33f rfl))))
  · skip
    cases h
    exact (x_frI (p := 60) (k := 23) rfl (x_frI (p := 60) (k := 21) rfl (x_frI (p := 60) (k := 25) rfl (x_fr.trans (x_frI (p := 60) (k := 24) rfl (x_frL (p := 60) (k := 26) rfl (x_frI (p := 60) (k := 22) rfl x_fr.rf))) (x_fr.su q22f rfl)))))
set_option maxHeartbeats 4000000 in
set_option maxRecDepth 100000 in
theorem fr_Mo_goes_60 {σ : xS} {r : Unit × xS} (h : f_Mo_goes_60 σ = some r) : x_fr [(60, 20), (60, 21), (60, 22), (60, 23), (60, 24), (60, 25), (60, 26)] σ r.2 := by
  unfold f_Mo_goes_60 at h
  try dsimp only at h
  obtain ⟨b38, b38h, h⟩ := x_bind h
  try dsimp only at h
  have b38f := x_itF (sA := (fun a => a)) (sB := (fun b => b)) (fun a o h => fr_Mo_goes_60_L0 h) _ _ _ b38h
  exact x_fr.trans (x_fr.trans x_fr.rf (x_fr.su b38f rfl)) (x_fr.su (fr_Mo_goes_60_J50 h) rfl)
set_option maxHeartbeats 4000000 in
set_option maxRecDepth 100000 in
theorem fr_Mo_spelled_J66 {v5 : Int32} {v6 : Int64} {σ : xS} {r : Int64 × xS} (h : f_Mo_spelled_J66 v5 v6 σ = some r) : x_fr [] σ r.2 := by
  unfold f_Mo_spelled_J66 at h
  try dsimp only at h
  refine x_iteC h (fun h => ?_) (fun h => ?_)
  · skip
    cases h
    exact x_fr.rf
  · skip
    cases h
    exact x_fr.rf
set_option maxHeartbeats 4000000 in
set_option maxRecDepth 100000 in
theorem fr_Mo_spelled_J48 {v4 : Int32} {v5 : Int32} {v6 : Int64} {σ : xS} {r : Int64 × xS} (h : f_Mo_spelled_J48 v4 v5 v6 σ = some r) : x_fr [] σ r.2 := by
  unfold f_Mo_spelled_J48 at h
  try dsimp only at h
  refine x_iteC h (fun h => ?_) (fun h => ?_)
  · skip
    exact x_fr.trans x_fr.rf (x_fr.su (fr_Mo_spelled_J66 h) rfl)
  · skip
    exact x_fr.trans x_fr.rf (x_fr.su (fr_Mo_spelled_J66 h) rfl)
set_option maxHeartbeats 4000000 in
set_option maxRecDepth 100000 in
theorem fr_Mo_spelled_J32 {v3 : Int32} {v4 : Int32} {v5 : Int32} {v6 : Int64} {σ : xS} {r : Int64 × xS} (h : f_Mo_spelled_J32 v3 v4 v5 v6 σ = some r) : x_fr [] σ r.2 := by
  unfold f_Mo_spelled_J32 at h
  try dsimp only at h
  refine x_iteC h (fun h => ?_) (fun h => ?_)
  · skip
    exact x_fr.trans x_fr.rf (x_fr.su (fr_Mo_spelled_J48 h) rfl)
  · skip
    exact x_fr.trans x_fr.rf (x_fr.su (fr_Mo_spelled_J48 h) rfl)
set_option maxHeartbeats 4000000 in
set_option maxRecDepth 100000 in
theorem fr_Mo_spelled {v0 : Int32} {v1 : Int32} {v2 : Int32} {v3 : Int32} {v4 : Int32} {v5 : Int32} {σ : xS} {r : Int64 × xS} (h : f_Mo_spelled v0 v1 v2 v3 v4 v5 σ = some r) : x_fr [] σ r.2 := by
  unfold f_Mo_spelled at h
  try dsimp only at h
  refine x_iteC h (fun h => ?_) (fun h => ?_)
  · skip
    exact x_fr.trans x_fr.rf (x_fr.su (fr_Mo_spelled_J32 h) rfl)
  · skip
    exact x_fr.trans x_fr.rf (x_fr.su (fr_Mo_spelled_J32 h) rfl)
set_option maxHeartbeats 4000000 in
set_option maxRecDepth 100000 in
theorem fr_Mo_letters {v0 : Int32} {σ : xS} {r : Int64 × xS} (h : f_Mo_letters v0 σ = some r) : x_fr [] σ r.2 := by
  unfold f_Mo_letters at h
  try dsimp only at h
  refine x_iteC h (fun h => ?_) (fun h => ?_)
  · skip
    obtain ⟨q1, q1h, h⟩ := x_bind h
    try dsimp only at h
    have q1f := fr_Mo_spelled q1h
    cases h
    exact (x_fr.trans x_fr.rf (x_fr.su q1f rfl))
  · skip
    refine x_iteC h (fun h => ?_) (fun h => ?_)
    · skip
      obtain ⟨q2, q2h, h⟩ := x_bind h
      try dsimp only at h
      have q2f := fr_Mo_spelled q2h
      cases h
      exact (x_fr.trans x_fr.rf (x_fr.su q2f rfl))
    · skip
      refine x_iteC h (fun h => ?_) (fun h => ?_)
      · skip
        obtain ⟨q3, q3h, h⟩ := x_bind h
        try dsimp only at h
        have q3f := fr_Mo_spelled q3h
        cases h
        exact (x_fr.trans x_fr.rf (x_fr.su q3f rfl))
      · skip
        refine x_iteC h (fun h => ?_) (fun h => ?_)
        · skip
          obtain ⟨q4, q4h, h⟩ := x_bind h
          try dsimp only at h
          have q4f := fr_Mo_spelled q4h
          cases h
          exact (x_fr.trans x_fr.rf (x_fr.su q4f rfl))
        · skip
          refine x_iteC h (fun h => ?_) (fun h => ?_)
          · skip
            obtain ⟨q5, q5h, h⟩ := x_bind h
            try dsimp only at h
            have q5f := fr_Mo_spelled q5h
            cases h
            exact (x_fr.trans x_fr.rf (x_fr.su q5f rfl))
          · skip
            refine x_iteC h (fun h => ?_) (fun h => ?_)
            · skip
              obtain ⟨q6, q6h, h⟩ := x_bind h
              try dsimp only at h
              have q6f := fr_Mo_spelled q6h
              cases h
              exact (x_fr.trans x_fr.rf (x_fr.su q6f rfl))
            · skip
              refine x_iteC h (fun h => ?_) (fun h => ?_)
              · skip
                obtain ⟨q7, q7h, h⟩ := x_bind h
                try dsimp only at h
                have q7f := fr_Mo_spelled q7h
                cases h
                exact (x_fr.trans x_fr.rf (x_fr.su q7f rfl))
              · skip
                refine x_iteC h (fun h => ?_) (fun h => ?_)
                · skip
                  obtain ⟨q8, q8h, h⟩ := x_bind h
                  try dsimp only at h
                  have q8f := fr_Mo_spelled q8h
                  cases h
                  exact (x_fr.trans x_fr.rf (x_fr.su q8f rfl))
                · skip
                  refine x_iteC h (fun h => ?_) (fun h => ?_)
                  · skip
                    obtain ⟨q9, q9h, h⟩ := x_bind h
                    try dsimp only at h
                    have q9f := fr_Mo_spelled q9h
                    cases h
                    exact (x_fr.trans x_fr.rf (x_fr.su q9f rfl))
                  · skip
                    refine x_iteC h (fun h => ?_) (fun h => ?_)
                    · skip
                      obtain ⟨q10, q10h, h⟩ := x_bind h
                      try dsimp only at h
                      have q10f := fr_Mo_spelled q10h
                      cases h
                      exact (x_fr.trans x_fr.rf (x_fr.su q10f rfl))
                    · skip
                      refine x_iteC h (fun h => ?_) (fun h => ?_)
                      · skip
                        obtain ⟨q11, q11h, h⟩ := x_bind h
                        try dsimp only at h
                        have q11f := fr_Mo_spelled q11h
                        cases h
                        exact (x_fr.trans x_fr.rf (x_fr.su q11f rfl))
                      · skip
                        refine x_iteC h (fun h => ?_) (fun h => ?_)
                        · skip
                          obtain ⟨q12, q12h, h⟩ := x_bind h
                          try dsimp only at h
                          have q12f := fr_Mo_spelled q12h
                          cases h
                          exact (x_fr.trans x_fr.rf (x_fr.su q12f rfl))
                        · skip
                          refine x_iteC h (fun h => ?_) (fun h => ?_)
                          · skip
                            obtain ⟨q13, q13h, h⟩ := x_bind h
                            try dsimp only at h
                            have q13f := fr_Mo_spelled q13h
                            cases h
                            exact (x_fr.trans x_fr.rf (x_fr.su q13f rfl))
                          · skip
                            refine x_iteC h (fun h => ?_) (fun h => ?_)
                            · skip
                              obtain ⟨q14, q14h, h⟩ := x_bind h
                              try dsimp only at h
                              have q14f := fr_Mo_spelled q14h
                              cases h
                              exact (x_fr.trans x_fr.rf (x_fr.su q14f rfl))
                            · skip
                              refine x_iteC h (fun h => ?_) (fun h => ?_)
                              · skip
                                obtain ⟨q15, q15h, h⟩ := x_bind h
                                try dsimp only at h
                                have q15f := fr_Mo_spelled q15h
                                cases h
                                exact (x_fr.trans x_fr.rf (x_fr.su q15f rfl))
                              · skip
                                refine x_iteC h (fun h => ?_) (fun h => ?_)
                                · skip
                                  obtain ⟨q16, q16h, h⟩ := x_bind h
                                  try dsimp only at h
                                  have q16f := fr_Mo_spelled q16h
                                  cases h
                                  exact (x_fr.trans x_fr.rf (x_fr.su q16f rfl))
                                · skip
                                  refine x_iteC h (fun h => ?_) (fun h => ?_)
                                  · skip
                                    obtain ⟨q17, q17h, h⟩ := x_bind h
                                    try dsimp only at h
                                    have q17f := fr_Mo_spelled q17h
                                    cases h
                                    exact (x_fr.trans x_fr.rf (x_fr.su q17f rfl))
                                  · skip
                                    refine x_iteC h (fun h => ?_) (fun h => ?_)
                                    · skip
                                      obtain ⟨q18, q18h, h⟩ := x_bind h
                                      try dsimp only at h
                                      have q18f := fr_Mo_spelled q18h
                                      cases h
                                      exact (x_fr.trans x_fr.rf (x_fr.su q18f rfl))
                                    · skip
                                      refine x_iteC h (fun h => ?_) (fun h => ?_)
                                      · skip
                                        obtain ⟨q19, q19h, h⟩ := x_bind h
                                        try dsimp only at h
                                        have q19f := fr_Mo_spelled q19h
                                        cases h
                                        exact (x_fr.trans x_fr.rf (x_fr.su q19f rfl))
                                      · skip
                                        refine x_iteC h (fun h => ?_) (fun h => ?_)
                                        · skip
                                          obtain ⟨q20, q20h, h⟩ := x_bind h
                                          try dsimp only at h
                                          have q20f := fr_Mo_spelled q20h
                                          cases h
                                          exact (x_fr.trans x_fr.rf (x_fr.su q20f rfl))
                                        · skip
                                          refine x_iteC h (fun h => ?_) (fun h => ?_)
                                          · skip
                                            obtain ⟨q21, q21h, h⟩ := x_bind h
                                            try dsimp only at h
                                            have q21f := fr_Mo_spelled q21h
                                            cases h
                                            exact (x_fr.trans x_fr.rf (x_fr.su q21f rfl))
                                          · skip
                                            obtain ⟨q22, q22h, h⟩ := x_bind h
                                            try dsimp only at h
                                            have q22f := fr_Mo_spelled q22h
                                            cases h
                                            exact (x_fr.trans x_fr.rf (x_fr.su q22f rfl))
set_option maxHeartbeats 4000000 in
set_option maxRecDepth 100000 in
theorem fr_Mo_knownWord_60_L21 {a : Int32 × xS} {o : ((Int32 × xS) ⊕ (Int32 × xS)) ⊕ (Int32 × xS)} (h : f_Mo_knownWord_60_L21 a = some o) : x_frO [] (fun a => a.2) (fun b => match b with | .inl q => q.2 | .inr e => e.2) a.2 o := by
  unfold f_Mo_knownWord_60_L21 at h
  try dsimp only at h
  refine x_iteC h (fun h => ?_) (fun h => ?_)
  · skip
    cases h
    exact x_frO.b x_fr.rf
  · skip
    obtain ⟨q1, q1h, h⟩ := x_bind h
    try dsimp only at h
    have q1f := fr_Mo_letters q1h
    refine x_iteC h (fun h => ?_) (fun h => ?_)
    · skip
      cases h
      exact x_frO.b (x_fr.trans x_fr.rf (x_fr.su q1f rfl))
    · skip
      cases h
      exact x_frO.a1 (x_fr.trans x_fr.rf (x_fr.su q1f rfl))
set_option maxHeartbeats 4000000 in
set_option maxRecDepth 100000 in
theorem fr_Mo_knownWord_60 {σ : xS} {r : Int32 × xS} (h : f_Mo_knownWord_60 σ = some r) : x_fr [] σ r.2 := by
  unfold f_Mo_knownWord_60 at h
  try dsimp only at h
  refine x_iteC h (fun h => ?_) (fun h => ?_)
  · skip
    refine x_iteC h (fun h => ?_) (fun h => ?_)
    · skip
      obtain ⟨b3, b3h, h⟩ := x_bind h
      try dsimp only at h
      have b3f := x_itF (sA := (fun a => a.2)) (sB := (fun b => match b with | .inl q => q.2 | .inr e => e.2)) (fun a o h => fr_Mo_knownWord_60_L21 h) _ _ _ b3h
      cases b3 with
      | inl b3r =>
        try dsimp only at h
        cases h
        exact (x_fr.trans x_fr.rf (x_fr.su b3f rfl))
      | inr b3e =>
        try dsimp only at h
        cases h
        exact (x_fr.trans x_fr.rf (x_fr.su b3f rfl))
    · skip
      cases h
      exact x_fr.rf
  · skip
    cases h
    exact x_fr.rf
set_option maxHeartbeats 4000000 in
set_option maxRecDepth 100000 in
theorem fr_Mo_wrong_60 {v1 : Int32} {σ : xS} {r : Unit × xS} (h : f_Mo_wrong_60 v1 σ = some r) : x_fr [(60, 16), (60, 17)] σ r.2 := by
  unfold f_Mo_wrong_60 at h
  try dsimp only at h
  refine x_iteC h (fun h => ?_) (fun h => ?_)
  · skip
    cases h
    exact (x_frI (p := 60) (k := 17) rfl (x_frI (p := 60) (k := 16) rfl x_fr.rf))
  · skip
    cases h
    exact x_fr.rf
set_option maxHeartbeats 4000000 in
set_option maxRecDepth 100000 in
theorem fr_Mo_isGood_60 {σ : xS} {r : Int32 × xS} (h : f_Mo_isGood_60 σ = some r) : x_fr [] σ r.2 := by
  unfold f_Mo_isGood_60 at h
  try dsimp only at h
  refine x_iteC h (fun h => ?_) (fun h => ?_)
  · skip
    cases h
    exact x_fr.rf
  · skip
    cases h
    exact x_fr.rf
set_option maxHeartbeats 4000000 in
set_option maxRecDepth 100000 in
theorem fr_Mo_isSign_60 {v1 : Int32} {σ : xS} {r : Int32 × xS} (h : f_Mo_isSign_60 v1 σ = some r) : x_fr [] σ r.2 := by
  unfold f_Mo_isSign_60 at h
  try dsimp only at h
  refine x_iteC h (fun h => ?_) (fun h => ?_)
  · skip
    refine x_iteC h (fun h => ?_) (fun h => ?_)
    · skip
      cases h
      exact x_fr.rf
    · skip
      cases h
      exact x_fr.rf
  · skip
    cases h
    exact x_fr.rf
set_option maxHeartbeats 4000000 in
set_option maxRecDepth 100000 in
theorem fr_Mo_need_60 {v1 : Int32} {σ : xS} {r : Unit × xS} (h : f_Mo_need_60 v1 σ = some r) : x_fr [(60, 16), (60, 17), (60, 20), (60, 21), (60, 22), (60, 23), (60, 24), (60, 25), (60, 26)] σ r.2 := by
  unfold f_Mo_need_60 at h
  try dsimp only at h
  obtain ⟨q1, q1h, h⟩ := x_bind h
  try dsimp only at h
  have q1f := fr_Mo_isGood_60 q1h
  refine x_iteC h (fun h => ?_) (fun h => ?_)
  · skip
    cases h
    exact (x_fr.trans x_fr.rf (x_fr.su q1f rfl))
  · skip
    refine x_iteC h (fun h => ?_) (fun h => ?_)
    · skip
      obtain ⟨q2, q2h, h⟩ := x_bind h
      try dsimp only at h
      have q2f := fr_Mo_wrong_60 q2h
      cases h
      exact (x_fr.trans (x_fr.trans x_fr.rf (x_fr.su q1f rfl)) (x_fr.su q2f rfl))
    · skip
      obtain ⟨q3, q3h, h⟩ := x_bind h
      try dsimp only at h
      have q3f := fr_Mo_goes_60 q3h
      cases h
      exact (x_fr.trans (x_fr.trans x_fr.rf (x_fr.su q1f rfl)) (x_fr.su q3f rfl))
set_option maxHeartbeats 4000000 in
set_option maxRecDepth 100000 in
theorem fr_Mo_numberHere_60 {v1 : Int32} {v2 : Int32} {σ : xS} {r : Int32 × xS} (h : f_Mo_numberHere_60 v1 v2 σ = some r) : x_fr [(60, 16), (60, 17)] σ r.2 := by
  unfold f_Mo_numberHere_60 at h
  try dsimp only at h
  obtain ⟨q1, q1h, h⟩ := x_bind h
  try dsimp only at h
  have q1f := fr_Mo_isGood_60 q1h
  refine x_iteC h (fun h => ?_) (fun h => ?_)
  · skip
    cases h
    exact (x_fr.trans x_fr.rf (x_fr.su q1f rfl))
  · skip
    refine x_iteC h (fun h => ?_) (fun h => ?_)
    · skip
      refine x_iteC h (fun h => ?_) (fun h => ?_)
      · skip
        obtain ⟨q2, q2h, h⟩ := x_bind h
        try dsimp only at h
        have q2f := fr_Mo_wrong_60 q2h
        obtain ⟨q3, q3h, h⟩ := x_bind h
        try dsimp only at h
        have q3f := fr_Mo_isGood_60 q3h
        obtain ⟨-, h⟩ := x_ift h
        cases h
        exact (x_fr.trans (x_fr.trans (x_fr.trans x_fr.rf (x_fr.su q1f rfl)) (x_fr.su q2f rfl)) (x_fr.su q3f rfl))
      · skip
        refine x_iteC h (fun h => ?_) (fun h => ?_)
        · skip
          obtain ⟨q4, q4h, h⟩ := x_bind h
          try dsimp only at h
          have q4f := fr_Mo_wrong_60 q4h
          obtain ⟨q5, q5h, h⟩ := x_bind h
          try dsimp only at h
          have q5f := fr_Mo_isGood_60 q5h
          obtain ⟨-, h⟩ := x_ift h
          cases h
          exact (x_fr.trans (x_fr.trans (x_fr.trans x_fr.rf (x_fr.su q1f rfl)) (x_fr.su q4f rfl)) (x_fr.su q5f rfl))
        · skip
          refine x_iteC h (fun h => ?_) (fun h => ?_)
          · skip
            obtain ⟨q6, q6h, h⟩ := x_bind h
            try dsimp only at h
            have q6f := fr_Mo_isGood_60 q6h
            obtain ⟨-, h⟩ := x_ift h
            cases h
            exact (x_fr.trans (x_fr.trans x_fr.rf (x_fr.su q1f rfl)) (x_fr.su q6f rfl))
          · skip
            obtain ⟨q7, q7h, h⟩ := x_bind h
            try dsimp only at h
            have q7f := fr_Mo_wrong_60 q7h
            obtain ⟨q8, q8h, h⟩ := x_bind h
            try dsimp only at h
            have q8f := fr_Mo_isGood_60 q8h
            obtain ⟨-, h⟩ := x_ift h
            cases h
            exact (x_fr.trans (x_fr.trans (x_fr.trans x_fr.rf (x_fr.su q1f rfl)) (x_fr.su q7f rfl)) (x_fr.su q8f rfl))
    · skip
      obtain ⟨q9, q9h, h⟩ := x_bind h
      try dsimp only at h
      have q9f := fr_Mo_wrong_60 q9h
      obtain ⟨q10, q10h, h⟩ := x_bind h
      try dsimp only at h
      have q10f := fr_Mo_isGood_60 q10h
      obtain ⟨-, h⟩ := x_ift h
      cases h
      exact (x_fr.trans (x_fr.trans (x_fr.trans x_fr.rf (x_fr.su q1f rfl)) (x_fr.su q9f rfl)) (x_fr.su q10f rfl))
set_option maxHeartbeats 4000000 in
set_option maxRecDepth 100000 in
theorem fr_Mo_number_60 {v1 : Int32} {v2 : Int32} {σ : xS} {r : Int32 × xS} (h : f_Mo_number_60 v1 v2 σ = some r) : x_fr [(60, 16), (60, 17), (60, 20), (60, 21), (60, 22), (60, 23), (60, 24), (60, 25), (60, 26)] σ r.2 := by
  unfold f_Mo_number_60 at h
  try dsimp only at h
  obtain ⟨q1, q1h, h⟩ := x_bind h
  try dsimp only at h
  have q1f := fr_Mo_numberHere_60 q1h
  refine x_iteC h (fun h => ?_) (fun h => ?_)
  · skip
    obtain ⟨q2, q2h, h⟩ := x_bind h
    try dsimp only at h
    have q2f := fr_Mo_isGood_60 q2h
    refine x_iteC h (fun h => ?_) (fun h => ?_)
    · skip
      cases h
      exact (x_fr.trans (x_fr.trans x_fr.rf (x_fr.su q1f rfl)) (x_fr.su q2f rfl))
    · skip
      obtain ⟨q3, q3h, h⟩ := x_bind h
      try dsimp only at h
      have q3f := fr_Mo_goes_60 q3h
      cases h
      exact (x_fr.trans (x_fr.trans (x_fr.trans x_fr.rf (x_fr.su q1f rfl)) (x_fr.su q2f rfl)) (x_fr.su q3f rfl))
  · skip
    obtain ⟨q5, q5h, h⟩ := x_bind h
    try dsimp only at h
    have q5f := fr_Mo_isGood_60 q5h
    refine x_iteC h (fun h => ?_) (fun h => ?_)
    · skip
      cases h
      exact (x_fr.trans (x_fr.trans x_fr.rf (x_fr.su q1f rfl)) (x_fr.su q5f rfl))
    · skip
      obtain ⟨q6, q6h, h⟩ := x_bind h
      try dsimp only at h
      have q6f := fr_Mo_goes_60 q6h
      cases h
      exact (x_fr.trans (x_fr.trans (x_fr.trans x_fr.rf (x_fr.su q1f rfl)) (x_fr.su q5f rfl)) (x_fr.su q6f rfl))
set_option maxHeartbeats 4000000 in
set_option maxRecDepth 100000 in
theorem fr_Mo_puts_60 {v1 : Int32} {σ : xS} {r : Unit × xS} (h : f_Mo_puts_60 v1 σ = some r) : x_fr [(60, 40), (76, 99999)] σ r.2 := by
  unfold f_Mo_puts_60 at h
  try dsimp only at h
  obtain ⟨-, h⟩ := x_ifn h
  cases h
  exact (x_frI (p := 60) (k := 40) rfl (x_frI (p := 76) rfl x_fr.rf))
set_option maxHeartbeats 4000000 in
set_option maxRecDepth 100000 in
theorem fr_Mo_isOpen {v0 : Int32} {σ : xS} {r : Int32 × xS} (h : f_Mo_isOpen v0 σ = some r) : x_fr [] σ r.2 := by
  unfold f_Mo_isOpen at h
  try dsimp only at h
  refine x_iteC h (fun h => ?_) (fun h => ?_)
  · skip
    cases h
    exact x_fr.rf
  · skip
    cases h
    exact x_fr.rf
set_option maxHeartbeats 4000000 in
set_option maxRecDepth 100000 in
theorem fr_Mo_strength {v0 : Int32} {σ : xS} {r : Int32 × xS} (h : f_Mo_strength v0 σ = some r) : x_fr [] σ r.2 := by
  unfold f_Mo_strength at h
  try dsimp only at h
  refine x_iteC h (fun h => ?_) (fun h => ?_)
  · skip
    cases h
    exact x_fr.rf
  · skip
    refine x_iteC h (fun h => ?_) (fun h => ?_)
    · skip
      cases h
      exact x_fr.rf
    · skip
      refine x_iteC h (fun h => ?_) (fun h => ?_)
      · skip
        cases h
        exact x_fr.rf
      · skip
        refine x_iteC h (fun h => ?_) (fun h => ?_)
        · skip
          cases h
          exact x_fr.rf
        · skip
          refine x_iteC h (fun h => ?_) (fun h => ?_)
          · skip
            cases h
            exact x_fr.rf
          · skip
            refine x_iteC h (fun h => ?_) (fun h => ?_)
            · skip
              cases h
              exact x_fr.rf
            · skip
              refine x_iteC h (fun h => ?_) (fun h => ?_)
              · skip
                cases h
                exact x_fr.rf
              · skip
                cases h
                exact x_fr.rf
set_option maxHeartbeats 4000000 in
set_option maxRecDepth 100000 in
theorem fr_Mo_drops_60_L0 {v1 : Int32} {a : xS} {o : (xS) ⊕ (xS)} (h : f_Mo_drops_60_L0 v1 a = some o) : x_frO [(60, 40), (60, 41), (76, 99999)] (fun a => a) (fun b => b) a o := by
  unfold f_Mo_drops_60_L0 at h
  try dsimp only at h
  refine x_iteC h (fun h => ?_) (fun h => ?_)
  · skip
    cases h
    exact x_frO.b x_fr.rf
  · skip
    obtain ⟨-, h⟩ := x_ifn h
    obtain ⟨q1, q1h, h⟩ := x_bind h
    try dsimp only at h
    have q1f := fr_Mo_isOpen q1h
    refine x_iteC h (fun h => ?_) (fun h => ?_)
    · skip
      obtain ⟨-, h⟩ := x_ifn h
      obtain ⟨q2, q2h, h⟩ := x_bind h
      try dsimp only at h
      have q2f := fr_Mo_strength q2h
      refine x_iteC h (fun h => ?_) (fun h => ?_)
      · skip
        cases h
        exact x_frO.b (x_fr.trans (x_fr.trans x_fr.rf (x_fr.su q1f rfl)) (x_fr.su q2f rfl))
      · skip
        obtain ⟨-, h⟩ := x_ifn h
        obtain ⟨q4, q4h, h⟩ := x_bind h
        try dsimp only at h
        have q4f := fr_Mo_puts_60 q4h
        cases h
        exact x_frO.a (x_fr.trans (x_frI (p := 60) (k := 41) rfl (x_fr.trans (x_fr.trans x_fr.rf (x_fr.su q1f rfl)) (x_fr.su q2f rfl))) (x_fr.su q4f rfl))
    · skip
      cases h
      exact x_frO.b (x_fr.trans x_fr.rf (x_fr.su q1f rfl))
set_option maxHeartbeats 4000000 in
set_option maxRecDepth 100000 in
theorem fr_Mo_drops_60 {v1 : Int32} {σ : xS} {r : Unit × xS} (h : f_Mo_drops_60 v1 σ = some r) : x_fr [(60, 40), (60, 41), (76, 99999)] σ r.2 := by
  unfold f_Mo_drops_60 at h
  try dsimp only at h
  obtain ⟨b5, b5h, h⟩ := x_bind h
  try dsimp only at h
  have b5f := x_itF (sA := (fun a => a)) (sB := (fun b => b)) (fun a o h => fr_Mo_drops_60_L0 h) _ _ _ b5h
  cases h
  exact (x_fr.trans x_fr.rf (x_fr.su b5f rfl))
set_option maxHeartbeats 4000000 in
set_option maxRecDepth 100000 in
theorem fr_Mo_waitsFor_60 {v1 : Int32} {σ : xS} {r : Unit × xS} (h : f_Mo_waitsFor_60 v1 σ = some r) : x_fr [(60, 41), (77, 99999)] σ r.2 := by
  unfold f_Mo_waitsFor_60 at h
  try dsimp only at h
  obtain ⟨-, h⟩ := x_ifn h
  cases h
  exact (x_frI (p := 60) (k := 41) rfl (x_frI (p := 77) rfl x_fr.rf))
set_option maxHeartbeats 4000000 in
set_option maxRecDepth 100000 in
theorem fr_Mo_part_60_J79 {v1 : Int32} {σ : xS} {r : Unit × xS} (h : f_Mo_part_60_J79 v1 σ = some r) : x_fr [(60, 20), (60, 21), (60, 22), (60, 23), (60, 24), (60, 25), (60, 26), (60, 40), (76, 99999)] σ r.2 := by
  unfold f_Mo_part_60_J79 at h
  try dsimp only at h
  obtain ⟨q1, q1h, h⟩ := x_bind h
  try dsimp only at h
  have q1f := fr_Mo_puts_60 q1h
  obtain ⟨q2, q2h, h⟩ := x_bind h
  try dsimp only at h
  have q2f := fr_Mo_puts_60 q2h
  obtain ⟨q3, q3h, h⟩ := x_bind h
  try dsimp only at h
  have q3f := fr_Mo_isGood_60 q3h
  refine x_iteC h (fun h => ?_) (fun h => ?_)
  · skip
    cases h
    exact (x_fr.trans (x_fr.trans (x_fr.trans x_fr.rf (x_fr.su q1f rfl)) (x_fr.su q2f rfl)) (x_fr.su q3f rfl))
  · skip
    obtain ⟨q4, q4h, h⟩ := x_bind h
    try dsimp only at h
    have q4f := fr_Mo_goes_60 q4h
    cases h
    exact (x_fr.trans (x_fr.trans (x_fr.trans (x_fr.trans x_fr.rf (x_fr.su q1f rfl)) (x_fr.su q2f rfl)) (x_fr.su q3f rfl)) (x_fr.su q4f rfl))
set_option maxHeartbeats 4000000 in
set_option maxRecDepth 100000 in
theorem fr_Mo_part_60_J74 {v1 : Int32} {σ : xS} {r : Unit × xS} (h : f_Mo_part_60_J74 v1 σ = some r) : x_fr [(60, 16), (60, 17), (60, 20), (60, 21), (60, 22), (60, 23), (60, 24), (60, 25), (60, 26), (60, 40), (76, 99999)] σ r.2 := by
  unfold f_Mo_part_60_J74 at h
  try dsimp only at h
  obtain ⟨q5, q5h, h⟩ := x_bind h
  try dsimp only at h
  have q5f := fr_Mo_wrong_60 q5h
  exact x_fr.trans (x_fr.trans x_fr.rf (x_fr.su q5f rfl)) (x_fr.su (fr_Mo_part_60_J79 h) rfl)
set_option maxHeartbeats 4000000 in
set_option maxRecDepth 100000 in
theorem fr_Mo_part_60_J29 {σ : xS} {r : Unit × xS} (h : f_Mo_part_60_J29 σ = some r) : x_fr [(60, 20), (60, 21), (60, 22), (60, 23), (60, 24), (60, 25), (60, 26), (60, 40), (76, 99999)] σ r.2 := by
  unfold f_Mo_part_60_J29 at h
  try dsimp only at h
  obtain ⟨q6, q6h, h⟩ := x_bind h
  try dsimp only at h
  have q6f := fr_Mo_puts_60 q6h
  obtain ⟨q7, q7h, h⟩ := x_bind h
  try dsimp only at h
  have q7f := fr_Mo_puts_60 q7h
  obtain ⟨q8, q8h, h⟩ := x_bind h
  try dsimp only at h
  have q8f := fr_Mo_isGood_60 q8h
  refine x_iteC h (fun h => ?_) (fun h => ?_)
  · skip
    cases h
    exact (x_fr.trans (x_fr.trans (x_fr.trans x_fr.rf (x_fr.su q6f rfl)) (x_fr.su q7f rfl)) (x_fr.su q8f rfl))
  · skip
    obtain ⟨q9, q9h, h⟩ := x_bind h
    try dsimp only at h
    have q9f := fr_Mo_goes_60 q9h
    cases h
    exact (x_fr.trans (x_fr.trans (x_fr.trans (x_fr.trans x_fr.rf (x_fr.su q6f rfl)) (x_fr.su q7f rfl)) (x_fr.su q8f rfl)) (x_fr.su q9f rfl))
set_option maxHeartbeats 4000000 in
set_option maxRecDepth 100000 in
theorem fr_Mo_part_60 {σ : xS} {r : Unit × xS} (h : f_Mo_part_60 σ = some r) : x_fr [(60, 16), (60, 17), (60, 20), (60, 21), (60, 22), (60, 23), (60, 24), (60, 25), (60, 26), (60, 40), (76, 99999)] σ r.2 := by
  unfold f_Mo_part_60 at h
  try dsimp only at h
  obtain ⟨q10, q10h, h⟩ := x_bind h
  try dsimp only at h
  have q10f := fr_Mo_isGood_60 q10h
  refine x_iteC h (fun h => ?_) (fun h => ?_)
  · skip
    cases h
    exact (x_fr.trans x_fr.rf (x_fr.su q10f rfl))
  · skip
    refine x_iteC h (fun h => ?_) (fun h => ?_)
    · skip
      refine x_iteC h (fun h => ?_) (fun h => ?_)
      · skip
        exact x_fr.trans (x_fr.trans x_fr.rf (x_fr.su q10f rfl)) (x_fr.su (fr_Mo_part_60_J29 h) rfl)
      · skip
        obtain ⟨q16, q16h, h⟩ := x_bind h
        try dsimp only at h
        have q16f := fr_Mo_wrong_60 q16h
        exact x_fr.trans (x_fr.trans (x_fr.trans x_fr.rf (x_fr.su q10f rfl)) (x_fr.su q16f rfl)) (x_fr.su (fr_Mo_part_60_J29 h) rfl)
    · skip
      refine x_iteC h (fun h => ?_) (fun h => ?_)
      · skip
        obtain ⟨q14, q14h, h⟩ := x_bind h
        try dsimp only at h
        have q14f := fr_Mo_knownWord_60 q14h
        refine x_iteC h (fun h => ?_) (fun h => ?_)
        · skip
          exact x_fr.trans (x_fr.trans (x_fr.trans x_fr.rf (x_fr.su q10f rfl)) (x_fr.su q14f rfl)) (x_fr.su (fr_Mo_part_60_J74 h) rfl)
        · skip
          refine x_iteC h (fun h => ?_) (fun h => ?_)
          · skip
            exact x_fr.trans (x_fr.trans (x_fr.trans x_fr.rf (x_fr.su q10f rfl)) (x_fr.su q14f rfl)) (x_fr.su (fr_Mo_part_60_J79 h) rfl)
          · skip
            exact x_fr.trans (x_fr.trans (x_fr.trans x_fr.rf (x_fr.su q10f rfl)) (x_fr.su q14f rfl)) (x_fr.su (fr_Mo_part_60_J74 h) rfl)
      · skip
        obtain ⟨q11, q11h, h⟩ := x_bind h
        try dsimp only at h
        have q11f := fr_Mo_wrong_60 q11h
        obtain ⟨q12, q12h, h⟩ := x_bind h
        try dsimp only at h
        have q12f := fr_Mo_isGood_60 q12h
        refine x_iteC h (fun h => ?_) (fun h => ?_)
        · skip
          cases h
          exact (x_fr.trans (x_fr.trans (x_fr.trans x_fr.rf (x_fr.su q10f rfl)) (x_fr.su q11f rfl)) (x_fr.su q12f rfl))
        · skip
          obtain ⟨q13, q13h, h⟩ := x_bind h
          try dsimp only at h
          have q13f := fr_Mo_goes_60 q13h
          cases h
          exact (x_fr.trans (x_fr.trans (x_fr.trans (x_fr.trans x_fr.rf (x_fr.su q10f rfl)) (x_fr.su q11f rfl)) (x_fr.su q12f rfl)) (x_fr.su q13f rfl))
set_option maxHeartbeats 4000000 in
set_option maxRecDepth 100000 in
theorem fr_Mo_deeper_60 {σ : xS} {r : Unit × xS} (h : f_Mo_deeper_60 σ = some r) : x_fr [(60, 16), (60, 17), (60, 42), (78, 99999)] σ r.2 := by
  unfold f_Mo_deeper_60 at h
  try dsimp only at h
  refine x_iteC h (fun h => ?_) (fun h => ?_)
  · skip
    refine x_iteC h (fun h => ?_) (fun h => ?_)
    · skip
      obtain ⟨q1, q1h, h⟩ := x_bind h
      try dsimp only at h
      have q1f := fr_Mo_wrong_60 q1h
      cases h
      exact (x_fr.trans x_fr.rf (x_fr.su q1f rfl))
    · skip
      refine x_iteC h (fun h => ?_) (fun h => ?_)
      · skip
        obtain ⟨q2, q2h, h⟩ := x_bind h
        try dsimp only at h
        have q2f := fr_Mo_wrong_60 q2h
        cases h
        exact (x_fr.trans x_fr.rf (x_fr.su q2f rfl))
      · skip
        obtain ⟨q3, q3h, h⟩ := x_bind h
        try dsimp only at h
        have q3f := fr_Mo_isSign_60 q3h
        refine x_iteC h (fun h => ?_) (fun h => ?_)
        · skip
          obtain ⟨q4, q4h, h⟩ := x_bind h
          try dsimp only at h
          have q4f := fr_Mo_wrong_60 q4h
          cases h
          exact (x_fr.trans (x_fr.trans x_fr.rf (x_fr.su q3f rfl)) (x_fr.su q4f rfl))
        · skip
          obtain ⟨q5, q5h, h⟩ := x_bind h
          try dsimp only at h
          have q5f := fr_Mo_wrong_60 q5h
          cases h
          exact (x_fr.trans (x_fr.trans x_fr.rf (x_fr.su q3f rfl)) (x_fr.su q5f rfl))
  · skip
    obtain ⟨-, h⟩ := x_ifn h
    cases h
    exact (x_frI (p := 78) rfl (x_frI (p := 60) (k := 42) rfl x_fr.rf))
set_option maxHeartbeats 4000000 in
set_option maxRecDepth 100000 in
theorem fr_Mo_operand_60_J50 {v2 : Int32} {v4 : Int32} {σ : xS} {o : (Int32 × xS) ⊕ (Int32 × xS)} (h : f_Mo_operand_60_J50 v2 v4 σ = some o) : x_frO [(60, 20), (60, 21), (60, 22), (60, 23), (60, 24), (60, 25), (60, 26), (60, 41), (77, 99999)] (fun a => a.2) (fun b => b.2) σ o := by
  unfold f_Mo_operand_60_J50 at h
  try dsimp only at h
  obtain ⟨q2, q2h, h⟩ := x_bind h
  try dsimp only at h
  have q2f := fr_Mo_isGood_60 q2h
  refine x_iteC h (fun h => ?_) (fun h => ?_)
  · skip
    cases h
    exact x_frO.a1 (x_fr.trans x_fr.rf (x_fr.su q2f rfl))
  · skip
    obtain ⟨q3, q3h, h⟩ := x_bind h
    try dsimp only at h
    have q3f := fr_Mo_waitsFor_60 q3h
    obtain ⟨q4, q4h, h⟩ := x_bind h
    try dsimp only at h
    have q4f := fr_Mo_goes_60 q4h
    cases h
    exact x_frO.a1 (x_fr.trans (x_fr.trans (x_fr.trans x_fr.rf (x_fr.su q2f rfl)) (x_fr.su q3f rfl)) (x_fr.su q4f rfl))
set_option maxHeartbeats 4000000 in
set_option maxRecDepth 100000 in
theorem fr_Mo_operand_60_L18 {v2 : Int32} {a : Int32 × xS} {o : (Int32 × xS) ⊕ (Int32 × xS)} (h : f_Mo_operand_60_L18 v2 a = some o) : x_frO [(60, 16), (60, 17), (60, 20), (60, 21), (60, 22), (60, 23), (60, 24), (60, 25), (60, 26), (60, 41), (77, 99999)] (fun a => a.2) (fun b => b.2) a.2 o := by
  unfold f_Mo_operand_60_L18 at h
  try dsimp only at h
  obtain ⟨q5, q5h, h⟩ := x_bind h
  try dsimp only at h
  have q5f := fr_Mo_isGood_60 q5h
  refine x_iteC h (fun h => ?_) (fun h => ?_)
  · skip
    cases h
    exact x_frO.b (x_fr.trans x_fr.rf (x_fr.su q5f rfl))
  · skip
    refine x_iteC h (fun h => ?_) (fun h => ?_)
    · skip
      cases h
      exact x_frO.b (x_fr.trans x_fr.rf (x_fr.su q5f rfl))
    · skip
      obtain ⟨q6, q6h, h⟩ := x_bind h
      try dsimp only at h
      have q6f := fr_Mo_knownWord_60 q6h
      refine x_iteC h (fun h => ?_) (fun h => ?_)
      · skip
        refine x_iteC h (fun h => ?_) (fun h => ?_)
        · skip
          obtain ⟨q7, q7h, h⟩ := x_bind h
          try dsimp only at h
          have q7f := fr_Mo_wrong_60 q7h
          exact x_frO.tr (x_fr.trans (x_fr.trans (x_fr.trans x_fr.rf (x_fr.su q5f rfl)) (x_fr.su q6f rfl)) (x_fr.su q7f rfl)) (x_frO.su (fr_Mo_operand_60_J50 h) rfl)
        · skip
          exact x_frO.tr (x_fr.trans (x_fr.trans x_fr.rf (x_fr.su q5f rfl)) (x_fr.su q6f rfl)) (x_frO.su (fr_Mo_operand_60_J50 h) rfl)
      · skip
        cases h
        exact x_frO.b (x_fr.trans (x_fr.trans x_fr.rf (x_fr.su q5f rfl)) (x_fr.su q6f rfl))
set_option maxHeartbeats 4000000 in
set_option maxRecDepth 100000 in
theorem fr_Mo_operand_60_J96 {v2 : Int32} {y0 : Int32} {σ : xS} {o : (Int32 × Int32 × xS) ⊕ (Int32 × Int32 × xS)} (h : f_Mo_operand_60_J96 v2 y0 σ = some o) : x_frO [(60, 16), (60, 17), (60, 20), (60, 21), (60, 22), (60, 23), (60, 24), (60, 25), (60, 26), (60, 41), (60, 42), (77, 99999), (78, 99999)] (fun a => a.2.2) (fun b => b.2.2) σ o := by
  unfold f_Mo_operand_60_J96 at h
  try dsimp only at h
  refine x_iteC h (fun h => ?_) (fun h => ?_)
  · skip
    cases h
    exact x_frO.a2 x_fr.rf
  · skip
    obtain ⟨q8, q8h, h⟩ := x_bind h
    try dsimp only at h
    have q8f := fr_Mo_waitsFor_60 q8h
    obtain ⟨q9, q9h, h⟩ := x_bind h
    try dsimp only at h
    have q9f := fr_Mo_goes_60 q9h
    obtain ⟨q10, q10h, h⟩ := x_bind h
    try dsimp only at h
    have q10f := fr_Mo_deeper_60 q10h
    cases h
    exact x_frO.a2 (x_fr.trans (x_fr.trans (x_fr.trans x_fr.rf (x_fr.su q8f rfl)) (x_fr.su q9f rfl)) (x_fr.su q10f rfl))
set_option maxHeartbeats 4000000 in
set_option maxRecDepth 100000 in
theorem fr_Mo_operand_60_J95 {v2 : Int32} {σ : xS} {o : (Int32 × Int32 × xS) ⊕ (Int32 × Int32 × xS)} (h : f_Mo_operand_60_J95 v2 σ = some o) : x_frO [(60, 16), (60, 17), (60, 20), (60, 21), (60, 22), (60, 23), (60, 24), (60, 25), (60, 26), (60, 41), (60, 42), (77, 99999), (78, 99999)] (fun a => a.2.2) (fun b => b.2.2) σ o := by
  unfold f_Mo_operand_60_J95 at h
  try dsimp only at h
  exact x_frO.tr x_fr.rf (x_frO.su (fr_Mo_operand_60_J96 h) rfl)
set_option maxHeartbeats 4000000 in
set_option maxRecDepth 100000 in
theorem fr_Mo_operand_60_J75 {v2 : Int32} {σ : xS} {o : (Int32 × Int32 × xS) ⊕ (Int32 × Int32 × xS)} (h : f_Mo_operand_60_J75 v2 σ = some o) : x_frO [(60, 16), (60, 17), (60, 20), (60, 21), (60, 22), (60, 23), (60, 24), (60, 25), (60, 26), (60, 41), (60, 42), (77, 99999), (78, 99999)] (fun a => a.2.2) (fun b => b.2.2) σ o := by
  unfold f_Mo_operand_60_J75 at h
  try dsimp only at h
  obtain ⟨q11, q11h, h⟩ := x_bind h
  try dsimp only at h
  have q11f := fr_Mo_isGood_60 q11h
  refine x_iteC h (fun h => ?_) (fun h => ?_)
  · skip
    exact x_frO.tr (x_fr.trans x_fr.rf (x_fr.su q11f rfl)) (x_frO.su (fr_Mo_operand_60_J95 h) rfl)
  · skip
    obtain ⟨q12, q12h, h⟩ := x_bind h
    try dsimp only at h
    have q12f := fr_Mo_isSign_60 q12h
    refine x_iteC h (fun h => ?_) (fun h => ?_)
    · skip
      exact x_frO.tr (x_fr.trans (x_fr.trans x_fr.rf (x_fr.su q11f rfl)) (x_fr.su q12f rfl)) (x_frO.su (fr_Mo_operand_60_J95 h) rfl)
    · skip
      exact x_frO.tr (x_fr.trans (x_fr.trans x_fr.rf (x_fr.su q11f rfl)) (x_fr.su q12f rfl)) (x_frO.su (fr_Mo_operand_60_J96 h) rfl)
set_option maxHeartbeats 4000000 in
set_option maxRecDepth 100000 in
theorem fr_Mo_operand_60_L4 {a : Int32 × Int32 × xS} {o : (Int32 × Int32 × xS) ⊕ (Int32 × Int32 × xS)} (h : f_Mo_operand_60_L4 a = some o) : x_frO [(60, 16), (60, 17), (60, 20), (60, 21), (60, 22), (60, 23), (60, 24), (60, 25), (60, 26), (60, 41), (60, 42), (77, 99999), (78, 99999)] (fun a => a.2.2) (fun b => b.2.2) a.2.2 o := by
  unfold f_Mo_operand_60_L4 at h
  try dsimp only at h
  refine x_iteC h (fun h => ?_) (fun h => ?_)
  · skip
    cases h
    exact x_frO.b x_fr.rf
  · skip
    obtain ⟨q13, q13h, h⟩ := x_bind h
    try dsimp only at h
    have q13f := fr_Mo_isGood_60 q13h
    refine x_iteC h (fun h => ?_) (fun h => ?_)
    · skip
      cases h
      exact x_frO.b (x_fr.trans x_fr.rf (x_fr.su q13f rfl))
    · skip
      obtain ⟨b14, b14h, h⟩ := x_bind h
      try dsimp only at h
      have b14f := x_itF (sA := (fun a => a.2)) (sB := (fun b => b.2)) (fun a o h => fr_Mo_operand_60_L18 h) _ _ _ b14h
      exact x_frO.tr (x_fr.trans (x_fr.trans x_fr.rf (x_fr.su q13f rfl)) (x_fr.su b14f rfl)) (x_frO.su (fr_Mo_operand_60_J75 h) rfl)
set_option maxHeartbeats 4000000 in
set_option maxRecDepth 100000 in
theorem fr_Mo_operand_60 {v1 : Int32} {σ : xS} {r : Unit × xS} (h : f_Mo_operand_60 v1 σ = some r) : x_fr [(60, 16), (60, 17), (60, 20), (60, 21), (60, 22), (60, 23), (60, 24), (60, 25), (60, 26), (60, 40), (60, 41), (60, 42), (76, 99999), (77, 99999), (78, 99999)] σ r.2 := by
  unfold f_Mo_operand_60 at h
  try dsimp only at h
  obtain ⟨b15, b15h, h⟩ := x_bind h
  try dsimp only at h
  have b15f := x_itF (sA := (fun a => a.2.2)) (sB := (fun b => b.2.2)) (fun a o h => fr_Mo_operand_60_L4 h) _ _ _ b15h
  obtain ⟨q16, q16h, h⟩ := x_bind h
  try dsimp only at h
  have q16f := fr_Mo_part_60 q16h
  cases h
  exact (x_fr.trans (x_fr.trans x_fr.rf (x_fr.su b15f rfl)) (x_fr.su q16f rfl))
set_option maxHeartbeats 4000000 in
set_option maxRecDepth 100000 in
theorem fr_Mo_isOpened_60_L7 {a : Int32 × xS} {o : (Int32 × xS) ⊕ (Int32 × xS)} (h : f_Mo_isOpened_60_L7 a = some o) : x_frO [] (fun a => a.2) (fun b => b.2) a.2 o := by
  unfold f_Mo_isOpened_60_L7 at h
  try dsimp only at h
  refine x_iteC h (fun h => ?_) (fun h => ?_)
  · skip
    cases h
    exact x_frO.b x_fr.rf
  · skip
    obtain ⟨-, h⟩ := x_ifn h
    obtain ⟨q1, q1h, h⟩ := x_bind h
    try dsimp only at h
    have q1f := fr_Mo_isOpen q1h
    refine x_iteC h (fun h => ?_) (fun h => ?_)
    · skip
      cases h
      exact x_frO.a1 (x_fr.trans x_fr.rf (x_fr.su q1f rfl))
    · skip
      cases h
      exact x_frO.b (x_fr.trans x_fr.rf (x_fr.su q1f rfl))
set_option maxHeartbeats 4000000 in
set_option maxRecDepth 100000 in
theorem fr_Mo_isOpened_60 {σ : xS} {r : Int32 × xS} (h : f_Mo_isOpened_60 σ = some r) : x_fr [] σ r.2 := by
  unfold f_Mo_isOpened_60 at h
  try dsimp only at h
  obtain ⟨b4, b4h, h⟩ := x_bind h
  try dsimp only at h
  have b4f := x_itF (sA := (fun a => a.2)) (sB := (fun b => b.2)) (fun a o h => fr_Mo_isOpened_60_L7 h) _ _ _ b4h
  refine x_iteC h (fun h => ?_) (fun h => ?_)
  · skip
    cases h
    exact (x_fr.trans x_fr.rf (x_fr.su b4f rfl))
  · skip
    cases h
    exact (x_fr.trans x_fr.rf (x_fr.su b4f rfl))
set_option maxHeartbeats 4000000 in
set_option maxRecDepth 100000 in
theorem fr_Mo_closes_60 {σ : xS} {r : Unit × xS} (h : f_Mo_closes_60 σ = some r) : x_fr [(60, 20), (60, 21), (60, 22), (60, 23), (60, 24), (60, 25), (60, 26), (60, 40), (60, 41), (60, 42), (76, 99999)] σ r.2 := by
  unfold f_Mo_closes_60 at h
  try dsimp only at h
  obtain ⟨q1, q1h, h⟩ := x_bind h
  try dsimp only at h
  have q1f := fr_Mo_drops_60 q1h
  obtain ⟨q4, q4h, h⟩ := x_bind h
  try dsimp only at h
  have q4f := fr_Mo_goes_60 q4h
  cases h
  exact (x_fr.trans (x_frI (p := 60) (k := 42) rfl (x_frI (p := 60) (k := 41) rfl (x_fr.trans x_fr.rf (x_fr.su q1f rfl)))) (x_fr.su q4f rfl))
set_option maxHeartbeats 4000000 in
set_option maxRecDepth 100000 in
theorem fr_Mo_expression_60_J274 {v3 : Int32} {σ : xS} {o : (Int32 × xS) ⊕ (Int32 × xS)} (h : f_Mo_expression_60_J274 v3 σ = some o) : x_frO [(60, 16), (60, 17), (60, 20), (60, 21), (60, 22), (60, 23), (60, 24), (60, 25), (60, 26), (60, 40), (60, 41), (60, 42), (76, 99999), (77, 99999), (78, 99999)] (fun a => a.2) (fun b => b.2) σ o := by
  unfold f_Mo_expression_60_J274 at h
  try dsimp only at h
  obtain ⟨q1, q1h, h⟩ := x_bind h
  try dsimp only at h
  have q1f := fr_Mo_drops_60 q1h
  obtain ⟨q2, q2h, h⟩ := x_bind h
  try dsimp only at h
  have q2f := fr_Mo_isSign_60 q2h
  refine x_iteC h (fun h => ?_) (fun h => ?_)
  · skip
    obtain ⟨q3, q3h, h⟩ := x_bind h
    try dsimp only at h
    have q3f := fr_Mo_waitsFor_60 q3h
    obtain ⟨q4, q4h, h⟩ := x_bind h
    try dsimp only at h
    have q4f := fr_Mo_goes_60 q4h
    obtain ⟨q5, q5h, h⟩ := x_bind h
    try dsimp only at h
    have q5f := fr_Mo_operand_60 q5h
    cases h
    exact x_frO.a1 (x_fr.trans (x_fr.trans (x_fr.trans (x_fr.trans (x_fr.trans x_fr.rf (x_fr.su q1f rfl)) (x_fr.su q2f rfl)) (x_fr.su q3f rfl)) (x_fr.su q4f rfl)) (x_fr.su q5f rfl))
  · skip
    obtain ⟨q6, q6h, h⟩ := x_bind h
    try dsimp only at h
    have q6f := fr_Mo_waitsFor_60 q6h
    obtain ⟨q7, q7h, h⟩ := x_bind h
    try dsimp only at h
    have q7f := fr_Mo_goes_60 q7h
    obtain ⟨q8, q8h, h⟩ := x_bind h
    try dsimp only at h
    have q8f := fr_Mo_operand_60 q8h
    cases h
    exact x_frO.a1 (x_fr.trans (x_fr.trans (x_fr.trans (x_fr.trans (x_fr.trans x_fr.rf (x_fr.su q1f rfl)) (x_fr.su q2f rfl)) (x_fr.su q6f rfl)) (x_fr.su q7f rfl)) (x_fr.su q8f rfl))
set_option maxHeartbeats 4000000 in
set_option maxRecDepth 100000 in
theorem fr_Mo_expression_60_J219 {v3 : Int32} {σ : xS} {o : (Int32 × xS) ⊕ (Int32 × xS)} (h : f_Mo_expression_60_J219 v3 σ = some o) : x_frO [(60, 16), (60, 17), (60, 20), (60, 21), (60, 22), (60, 23), (60, 24), (60, 25), (60, 26), (60, 40), (60, 41), (60, 42), (76, 99999), (77, 99999), (78, 99999)] (fun a => a.2) (fun b => b.2) σ o := by
  unfold f_Mo_expression_60_J219 at h
  try dsimp only at h
  obtain ⟨q9, q9h, h⟩ := x_bind h
  try dsimp only at h
  have q9f := fr_Mo_drops_60 q9h
  obtain ⟨q10, q10h, h⟩ := x_bind h
  try dsimp only at h
  have q10f := fr_Mo_isSign_60 q10h
  refine x_iteC h (fun h => ?_) (fun h => ?_)
  · skip
    obtain ⟨q11, q11h, h⟩ := x_bind h
    try dsimp only at h
    have q11f := fr_Mo_waitsFor_60 q11h
    obtain ⟨q12, q12h, h⟩ := x_bind h
    try dsimp only at h
    have q12f := fr_Mo_goes_60 q12h
    obtain ⟨q13, q13h, h⟩ := x_bind h
    try dsimp only at h
    have q13f := fr_Mo_operand_60 q13h
    cases h
    exact x_frO.a1 (x_fr.trans (x_fr.trans (x_fr.trans (x_fr.trans (x_fr.trans x_fr.rf (x_fr.su q9f rfl)) (x_fr.su q10f rfl)) (x_fr.su q11f rfl)) (x_fr.su q12f rfl)) (x_fr.su q13f rfl))
  · skip
    obtain ⟨q14, q14h, h⟩ := x_bind h
    try dsimp only at h
    have q14f := fr_Mo_waitsFor_60 q14h
    obtain ⟨q15, q15h, h⟩ := x_bind h
    try dsimp only at h
    have q15f := fr_Mo_goes_60 q15h
    obtain ⟨q16, q16h, h⟩ := x_bind h
    try dsimp only at h
    have q16f := fr_Mo_operand_60 q16h
    cases h
    exact x_frO.a1 (x_fr.trans (x_fr.trans (x_fr.trans (x_fr.trans (x_fr.trans x_fr.rf (x_fr.su q9f rfl)) (x_fr.su q10f rfl)) (x_fr.su q14f rfl)) (x_fr.su q15f rfl)) (x_fr.su q16f rfl))
set_option maxHeartbeats 4000000 in
set_option maxRecDepth 100000 in
theorem fr_Mo_expression_60_J201 {v3 : Int32} {σ : xS} {o : (Int32 × xS) ⊕ (Int32 × xS)} (h : f_Mo_expression_60_J201 v3 σ = some o) : x_frO [(60, 16), (60, 17), (60, 20), (60, 21), (60, 22), (60, 23), (60, 24), (60, 25), (60, 26), (60, 40), (60, 41), (60, 42), (76, 99999), (77, 99999), (78, 99999)] (fun a => a.2) (fun b => b.2) σ o := by
  unfold f_Mo_expression_60_J201 at h
  try dsimp only at h
  obtain ⟨q17, q17h, h⟩ := x_bind h
  try dsimp only at h
  have q17f := fr_Mo_isSign_60 q17h
  refine x_iteC h (fun h => ?_) (fun h => ?_)
  · skip
    obtain ⟨q18, q18h, h⟩ := x_bind h
    try dsimp only at h
    have q18f := fr_Mo_isSign_60 q18h
    refine x_iteC h (fun h => ?_) (fun h => ?_)
    · skip
      obtain ⟨q19, q19h, h⟩ := x_bind h
      try dsimp only at h
      have q19f := fr_Mo_isSign_60 q19h
      refine x_iteC h (fun h => ?_) (fun h => ?_)
      · skip
        obtain ⟨q20, q20h, h⟩ := x_bind h
        try dsimp only at h
        have q20f := fr_Mo_isSign_60 q20h
        refine x_iteC h (fun h => ?_) (fun h => ?_)
        · skip
          obtain ⟨q21, q21h, h⟩ := x_bind h
          try dsimp only at h
          have q21f := fr_Mo_isSign_60 q21h
          refine x_iteC h (fun h => ?_) (fun h => ?_)
          · skip
            cases h
            exact x_frO.a1 (x_fr.trans (x_fr.trans (x_fr.trans (x_fr.trans (x_fr.trans x_fr.rf (x_fr.su q17f rfl)) (x_fr.su q18f rfl)) (x_fr.su q19f rfl)) (x_fr.su q20f rfl)) (x_fr.su q21f rfl))
          · skip
            obtain ⟨q22, q22h, h⟩ := x_bind h
            try dsimp only at h
            have q22f := fr_Mo_isOpened_60 q22h
            refine x_iteC h (fun h => ?_) (fun h => ?_)
            · skip
              cases h
              exact x_frO.a1 (x_fr.trans (x_fr.trans (x_fr.trans (x_fr.trans (x_fr.trans (x_fr.trans x_fr.rf (x_fr.su q17f rfl)) (x_fr.su q18f rfl)) (x_fr.su q19f rfl)) (x_fr.su q20f rfl)) (x_fr.su q21f rfl)) (x_fr.su q22f rfl))
            · skip
              obtain ⟨q23, q23h, h⟩ := x_bind h
              try dsimp only at h
              have q23f := fr_Mo_closes_60 q23h
              cases h
              exact x_frO.a1 (x_fr.trans (x_fr.trans (x_fr.trans (x_fr.trans (x_fr.trans (x_fr.trans (x_fr.trans x_fr.rf (x_fr.su q17f rfl)) (x_fr.su q18f rfl)) (x_fr.su q19f rfl)) (x_fr.su q20f rfl)) (x_fr.su q21f rfl)) (x_fr.su q22f rfl)) (x_fr.su q23f rfl))
        · skip
          exact x_frO.tr (x_fr.trans (x_fr.trans (x_fr.trans (x_fr.trans x_fr.rf (x_fr.su q17f rfl)) (x_fr.su q18f rfl)) (x_fr.su q19f rfl)) (x_fr.su q20f rfl)) (x_frO.su (fr_Mo_expression_60_J274 h) rfl)
      · skip
        exact x_frO.tr (x_fr.trans (x_fr.trans (x_fr.trans x_fr.rf (x_fr.su q17f rfl)) (x_fr.su q18f rfl)) (x_fr.su q19f rfl)) (x_frO.su (fr_Mo_expression_60_J274 h) rfl)
    · skip
      exact x_frO.tr (x_fr.trans (x_fr.trans x_fr.rf (x_fr.su q17f rfl)) (x_fr.su q18f rfl)) (x_frO.su (fr_Mo_expression_60_J219 h) rfl)
  · skip
    exact x_frO.tr (x_fr.trans x_fr.rf (x_fr.su q17f rfl)) (x_frO.su (fr_Mo_expression_60_J219 h) rfl)
set_option maxHeartbeats 4000000 in
set_option maxRecDepth 100000 in
theorem fr_Mo_expression_60_J176 {v3 : Int32} {y1 : Int32} {σ : xS} {o : (Int32 × xS) ⊕ (Int32 × xS)} (h : f_Mo_expression_60_J176 v3 y1 σ = some o) : x_frO [(60, 16), (60, 17), (60, 20), (60, 21), (60, 22), (60, 23), (60, 24), (60, 25), (60, 26), (60, 40), (60, 41), (60, 42), (76, 99999), (77, 99999), (78, 99999)] (fun a => a.2) (fun b => b.2) σ o := by
  unfold f_Mo_expression_60_J176 at h
  try dsimp only at h
  obtain ⟨q24, q24h, h⟩ := x_bind h
  try dsimp only at h
  have q24f := fr_Mo_waitsFor_60 q24h
  obtain ⟨-, h⟩ := x_ifn h
  obtain ⟨q26, q26h, h⟩ := x_bind h
  try dsimp only at h
  have q26f := fr_Mo_goes_60 q26h
  obtain ⟨q27, q27h, h⟩ := x_bind h
  try dsimp only at h
  have q27f := fr_Mo_operand_60 q27h
  cases h
  exact x_frO.a1 (x_fr.trans (x_fr.trans (x_frI (p := 78) rfl (x_fr.trans x_fr.rf (x_fr.su q24f rfl))) (x_fr.su q26f rfl)) (x_fr.su q27f rfl))
set_option maxHeartbeats 4000000 in
set_option maxRecDepth 100000 in
theorem fr_Mo_expression_60_J142 {v3 : Int32} {σ : xS} {o : (Int32 × xS) ⊕ (Int32 × xS)} (h : f_Mo_expression_60_J142 v3 σ = some o) : x_frO [(60, 16), (60, 17), (60, 20), (60, 21), (60, 22), (60, 23), (60, 24), (60, 25), (60, 26), (60, 40), (60, 41), (60, 42), (76, 99999), (77, 99999), (78, 99999)] (fun a => a.2) (fun b => b.2) σ o := by
  unfold f_Mo_expression_60_J142 at h
  try dsimp only at h
  obtain ⟨-, h⟩ := x_ifn h
  refine x_iteC h (fun h => ?_) (fun h => ?_)
  · skip
    obtain ⟨q28, q28h, h⟩ := x_bind h
    try dsimp only at h
    have q28f := fr_Mo_drops_60 q28h
    obtain ⟨q29, q29h, h⟩ := x_bind h
    try dsimp only at h
    have q29f := fr_Mo_isSign_60 q29h
    refine x_iteC h (fun h => ?_) (fun h => ?_)
    · skip
      exact x_frO.tr (x_fr.trans (x_fr.trans x_fr.rf (x_fr.su q28f rfl)) (x_fr.su q29f rfl)) (x_frO.su (fr_Mo_expression_60_J176 h) rfl)
    · skip
      exact x_frO.tr (x_fr.trans (x_fr.trans x_fr.rf (x_fr.su q28f rfl)) (x_fr.su q29f rfl)) (x_frO.su (fr_Mo_expression_60_J176 h) rfl)
  · skip
    exact x_frO.tr x_fr.rf (x_frO.su (fr_Mo_expression_60_J201 h) rfl)
set_option maxHeartbeats 4000000 in
set_option maxRecDepth 100000 in
theorem fr_Mo_expression_60_J99 {v3 : Int32} {y1 : Int32} {σ : xS} {o : (Int32 × xS) ⊕ (Int32 × xS)} (h : f_Mo_expression_60_J99 v3 y1 σ = some o) : x_frO [(60, 16), (60, 17), (60, 20), (60, 21), (60, 22), (60, 23), (60, 24), (60, 25), (60, 26), (60, 40), (60, 41), (60, 42), (76, 99999), (77, 99999), (78, 99999)] (fun a => a.2) (fun b => b.2) σ o := by
  unfold f_Mo_expression_60_J99 at h
  try dsimp only at h
  obtain ⟨q30, q30h, h⟩ := x_bind h
  try dsimp only at h
  have q30f := fr_Mo_waitsFor_60 q30h
  obtain ⟨-, h⟩ := x_ifn h
  obtain ⟨q32, q32h, h⟩ := x_bind h
  try dsimp only at h
  have q32f := fr_Mo_goes_60 q32h
  obtain ⟨q33, q33h, h⟩ := x_bind h
  try dsimp only at h
  have q33f := fr_Mo_operand_60 q33h
  cases h
  exact x_frO.a1 (x_fr.trans (x_fr.trans (x_frI (p := 78) rfl (x_fr.trans x_fr.rf (x_fr.su q30f rfl))) (x_fr.su q32f rfl)) (x_fr.su q33f rfl))
set_option maxHeartbeats 4000000 in
set_option maxRecDepth 100000 in
theorem fr_Mo_expression_60_J83 {v3 : Int32} {v4 : Int32} {y1 : Int32} {σ : xS} {o : (Int32 × xS) ⊕ (Int32 × xS)} (h : f_Mo_expression_60_J83 v3 v4 y1 σ = some o) : x_frO [(60, 16), (60, 17), (60, 20), (60, 21), (60, 22), (60, 23), (60, 24), (60, 25), (60, 26), (60, 40), (60, 41), (60, 42), (76, 99999), (77, 99999), (78, 99999)] (fun a => a.2) (fun b => b.2) σ o := by
  unfold f_Mo_expression_60_J83 at h
  try dsimp only at h
  obtain ⟨q34, q34h, h⟩ := x_bind h
  try dsimp only at h
  have q34f := fr_Mo_drops_60 q34h
  refine x_iteC h (fun h => ?_) (fun h => ?_)
  · skip
    exact x_frO.tr (x_fr.trans x_fr.rf (x_fr.su q34f rfl)) (x_frO.su (fr_Mo_expression_60_J99 h) rfl)
  · skip
    exact x_frO.tr (x_fr.trans x_fr.rf (x_fr.su q34f rfl)) (x_frO.su (fr_Mo_expression_60_J99 h) rfl)
set_option maxHeartbeats 4000000 in
set_option maxRecDepth 100000 in
theorem fr_Mo_expression_60_J70 {v3 : Int32} {v4 : Int32} {σ : xS} {o : (Int32 × xS) ⊕ (Int32 × xS)} (h : f_Mo_expression_60_J70 v3 v4 σ = some o) : x_frO [(60, 16), (60, 17), (60, 20), (60, 21), (60, 22), (60, 23), (60, 24), (60, 25), (60, 26), (60, 40), (60, 41), (60, 42), (76, 99999), (77, 99999), (78, 99999)] (fun a => a.2) (fun b => b.2) σ o := by
  unfold f_Mo_expression_60_J70 at h
  try dsimp only at h
  refine x_iteC h (fun h => ?_) (fun h => ?_)
  · skip
    exact x_frO.tr x_fr.rf (x_frO.su (fr_Mo_expression_60_J83 h) rfl)
  · skip
    exact x_frO.tr x_fr.rf (x_frO.su (fr_Mo_expression_60_J83 h) rfl)
set_option maxHeartbeats 4000000 in
set_option maxRecDepth 100000 in
theorem fr_Mo_expression_60_L39 {a : Int32 × xS} {o : (Int32 × xS) ⊕ (Int32 × xS)} (h : f_Mo_expression_60_L39 a = some o) : x_frO [(60, 16), (60, 17), (60, 20), (60, 21), (60, 22), (60, 23), (60, 24), (60, 25), (60, 26), (60, 40), (60, 41), (60, 42), (76, 99999), (77, 99999), (78, 99999)] (fun a => a.2) (fun b => b.2) a.2 o := by
  unfold f_Mo_expression_60_L39 at h
  try dsimp only at h
  refine x_iteC h (fun h => ?_) (fun h => ?_)
  · skip
    cases h
    exact x_frO.b x_fr.rf
  · skip
    obtain ⟨q35, q35h, h⟩ := x_bind h
    try dsimp only at h
    have q35f := fr_Mo_isGood_60 q35h
    refine x_iteC h (fun h => ?_) (fun h => ?_)
    · skip
      cases h
      exact x_frO.b (x_fr.trans x_fr.rf (x_fr.su q35f rfl))
    · skip
      obtain ⟨q36, q36h, h⟩ := x_bind h
      try dsimp only at h
      have q36f := fr_Mo_knownWord_60 q36h
      refine x_iteC h (fun h => ?_) (fun h => ?_)
      · skip
        exact x_frO.tr (x_fr.trans (x_fr.trans x_fr.rf (x_fr.su q35f rfl)) (x_fr.su q36f rfl)) (x_frO.su (fr_Mo_expression_60_J70 h) rfl)
      · skip
        refine x_iteC h (fun h => ?_) (fun h => ?_)
        · skip
          exact x_frO.tr (x_fr.trans (x_fr.trans x_fr.rf (x_fr.su q35f rfl)) (x_fr.su q36f rfl)) (x_frO.su (fr_Mo_expression_60_J70 h) rfl)
        · skip
          obtain ⟨q38, q38h, h⟩ := x_bind h
          try dsimp only at h
          have q38f := fr_Mo_isSign_60 q38h
          refine x_iteC h (fun h => ?_) (fun h => ?_)
          · skip
            obtain ⟨q39, q39h, h⟩ := x_bind h
            try dsimp only at h
            have q39f := fr_Mo_isSign_60 q39h
            refine x_iteC h (fun h => ?_) (fun h => ?_)
            · skip
              exact x_frO.tr (x_fr.trans (x_fr.trans (x_fr.trans (x_fr.trans x_fr.rf (x_fr.su q35f rfl)) (x_fr.su q36f rfl)) (x_fr.su q38f rfl)) (x_fr.su q39f rfl)) (x_frO.su (fr_Mo_expression_60_J201 h) rfl)
            · skip
              exact x_frO.tr (x_fr.trans (x_fr.trans (x_fr.trans (x_fr.trans x_fr.rf (x_fr.su q35f rfl)) (x_fr.su q36f rfl)) (x_fr.su q38f rfl)) (x_fr.su q39f rfl)) (x_frO.su (fr_Mo_expression_60_J142 h) rfl)
          · skip
            exact x_frO.tr (x_fr.trans (x_fr.trans (x_fr.trans x_fr.rf (x_fr.su q35f rfl)) (x_fr.su q36f rfl)) (x_fr.su q38f rfl)) (x_frO.su (fr_Mo_expression_60_J142 h) rfl)
set_option maxHeartbeats 4000000 in
set_option maxRecDepth 100000 in
theorem fr_Mo_expression_60_J340 {σ : xS} {r : Unit × xS} (h : f_Mo_expression_60_J340 σ = some r) : x_fr [(60, 16), (60, 17), (60, 40), (60, 41), (76, 99999)] σ r.2 := by
  unfold f_Mo_expression_60_J340 at h
  try dsimp only at h
  obtain ⟨q40, q40h, h⟩ := x_bind h
  try dsimp only at h
  have q40f := fr_Mo_isGood_60 q40h
  refine x_iteC h (fun h => ?_) (fun h => ?_)
  · skip
    obtain ⟨q41, q41h, h⟩ := x_bind h
    try dsimp only at h
    have q41f := fr_Mo_drops_60 q41h
    obtain ⟨q42, q42h, h⟩ := x_bind h
    try dsimp only at h
    have q42f := fr_Mo_puts_60 q42h
    cases h
    exact (x_fr.trans (x_fr.trans (x_fr.trans x_fr.rf (x_fr.su q40f rfl)) (x_fr.su q41f rfl)) (x_fr.su q42f rfl))
  · skip
    refine x_iteC h (fun h => ?_) (fun h => ?_)
    · skip
      obtain ⟨q43, q43h, h⟩ := x_bind h
      try dsimp only at h
      have q43f := fr_Mo_drops_60 q43h
      obtain ⟨q44, q44h, h⟩ := x_bind h
      try dsimp only at h
      have q44f := fr_Mo_puts_60 q44h
      cases h
      exact (x_fr.trans (x_fr.trans (x_fr.trans x_fr.rf (x_fr.su q40f rfl)) (x_fr.su q43f rfl)) (x_fr.su q44f rfl))
    · skip
      obtain ⟨q45, q45h, h⟩ := x_bind h
      try dsimp only at h
      have q45f := fr_Mo_wrong_60 q45h
      obtain ⟨q46, q46h, h⟩ := x_bind h
      try dsimp only at h
      have q46f := fr_Mo_drops_60 q46h
      obtain ⟨q47, q47h, h⟩ := x_bind h
      try dsimp only at h
      have q47f := fr_Mo_puts_60 q47h
      cases h
      exact (x_fr.trans (x_fr.trans (x_fr.trans (x_fr.trans x_fr.rf (x_fr.su q40f rfl)) (x_fr.su q45f rfl)) (x_fr.su q46f rfl)) (x_fr.su q47f rfl))
set_option maxHeartbeats 4000000 in
set_option maxRecDepth 100000 in
theorem fr_Mo_expression_60 {v1 : Int32} {v2 : Int32} {σ : xS} {r : Unit × xS} (h : f_Mo_expression_60 v1 v2 σ = some r) : x_fr [(60, 16), (60, 17), (60, 20), (60, 21), (60, 22), (60, 23), (60, 24), (60, 25), (60, 26), (60, 38), (60, 39), (60, 40), (60, 41), (60, 42), (76, 99999), (77, 99999), (78, 99999)] σ r.2 := by
  unfold f_Mo_expression_60 at h
  try dsimp only at h
  obtain ⟨q48, q48h, h⟩ := x_bind h
  try dsimp only at h
  have q48f := fr_Mo_isGood_60 q48h
  refine x_iteC h (fun h => ?_) (fun h => ?_)
  · skip
    cases h
    exact (x_fr.trans x_fr.rf (x_fr.su q48f rfl))
  · skip
    obtain ⟨q53, q53h, h⟩ := x_bind h
    try dsimp only at h
    have q53f := fr_Mo_deeper_60 q53h
    obtain ⟨q54, q54h, h⟩ := x_bind h
    try dsimp only at h
    have q54f := fr_Mo_operand_60 q54h
    obtain ⟨b55, b55h, h⟩ := x_bind h
    try dsimp only at h
    have b55f := x_itF (sA := (fun a => a.2)) (sB := (fun b => b.2)) (fun a o h => fr_Mo_expression_60_L39 h) _ _ _ b55h
    exact x_fr.trans (x_fr.trans (x_fr.trans (x_fr.trans (x_frI (p := 60) (k := 42) rfl (x_frI (p := 60) (k := 41) rfl (x_frI (p := 60) (k := 39) rfl (x_frI (p := 60) (k := 38) rfl (x_fr.trans x_fr.rf (x_fr.su q48f rfl)))))) (x_fr.su q53f rfl)) (x_fr.su q54f rfl)) (x_fr.su b55f rfl)) (x_fr.su (fr_Mo_expression_60_J340 h) rfl)
set_option maxHeartbeats 4000000 in
set_option maxRecDepth 100000 in
theorem fr_Mo_once_60_J17 {v1 : Int32} {σ : xS} {r : Int32 × xS} (h : f_Mo_once_60_J17 v1 σ = some r) : x_fr [(60, 20), (60, 21), (60, 22), (60, 23), (60, 24), (60, 25), (60, 26), (60, 37)] σ r.2 := by
  unfold f_Mo_once_60_J17 at h
  try dsimp only at h
  obtain ⟨q2, q2h, h⟩ := x_bind h
  try dsimp only at h
  have q2f := fr_Mo_isGood_60 q2h
  refine x_iteC h (fun h => ?_) (fun h => ?_)
  · skip
    obtain ⟨q3, q3h, h⟩ := x_bind h
    try dsimp only at h
    have q3f := fr_Mo_isGood_60 q3h
    obtain ⟨-, h⟩ := x_ift h
    cases h
    exact (x_fr.trans (x_fr.trans (x_frI (p := 60) (k := 37) rfl x_fr.rf) (x_fr.su q2f rfl)) (x_fr.su q3f rfl))
  · skip
    obtain ⟨q4, q4h, h⟩ := x_bind h
    try dsimp only at h
    have q4f := fr_Mo_goes_60 q4h
    obtain ⟨q5, q5h, h⟩ := x_bind h
    try dsimp only at h
    have q5f := fr_Mo_isGood_60 q5h
    obtain ⟨-, h⟩ := x_ift h
    cases h
    exact (x_fr.trans (x_fr.trans (x_fr.trans (x_frI (p := 60) (k := 37) rfl x_fr.rf) (x_fr.su q2f rfl)) (x_fr.su q4f rfl)) (x_fr.su q5f rfl))
set_option maxHeartbeats 4000000 in
set_option maxRecDepth 100000 in
theorem fr_Mo_once_60 {v1 : Int32} {σ : xS} {r : Int32 × xS} (h : f_Mo_once_60 v1 σ = some r) : x_fr [(60, 16), (60, 17), (60, 20), (60, 21), (60, 22), (60, 23), (60, 24), (60, 25), (60, 26), (60, 37)] σ r.2 := by
  unfold f_Mo_once_60 at h
  try dsimp only at h
  refine x_iteC h (fun h => ?_) (fun h => ?_)
  · skip
    obtain ⟨q6, q6h, h⟩ := x_bind h
    try dsimp only at h
    have q6f := fr_Mo_wrong_60 q6h
    exact x_fr.trans (x_fr.trans x_fr.rf (x_fr.su q6f rfl)) (x_fr.su (fr_Mo_once_60_J17 h) rfl)
  · skip
    exact x_fr.trans x_fr.rf (x_fr.su (fr_Mo_once_60_J17 h) rfl)
set_option maxHeartbeats 4000000 in
set_option maxRecDepth 100000 in
theorem fr_Mo_readsMove_60_J78 {v2 : Int32} {σ : xS} {r : Unit × xS} (h : f_Mo_readsMove_60_J78 v2 σ = some r) : x_fr [(60, 20), (60, 21), (60, 22), (60, 23), (60, 24), (60, 25), (60, 26), (60, 28), (60, 34), (60, 35), (69, 99999), (70, 99999)] σ r.2 := by
  unfold f_Mo_readsMove_60_J78 at h
  try dsimp only at h
  obtain ⟨q1, q1h, h⟩ := x_bind h
  try dsimp only at h
  have q1f := fr_Mo_isGood_60 q1h
  refine x_iteC h (fun h => ?_) (fun h => ?_)
  · skip
    cases h
    exact (x_fr.trans x_fr.rf (x_fr.su q1f rfl))
  · skip
    obtain ⟨-, h⟩ := x_ifn h
    obtain ⟨-, h⟩ := x_ifn h
    obtain ⟨q7, q7h, h⟩ := x_bind h
    try dsimp only at h
    have q7f := fr_Mo_goes_60 q7h
    cases h
    exact (x_fr.trans (x_frI (p := 60) (k := 28) rfl (x_frI (p := 60) (k := 34) rfl (x_frI (p := 70) rfl (x_frI (p := 69) rfl (x_frI (p := 60) (k := 35) rfl (x_fr.trans x_fr.rf (x_fr.su q1f rfl))))))) (x_fr.su q7f rfl))
set_option maxHeartbeats 4000000 in
set_option maxRecDepth 100000 in
theorem fr_Mo_readsMove_60_J46 {y0 : Int32} {σ : xS} {r : Unit × xS} (h : f_Mo_readsMove_60_J46 y0 σ = some r) : x_fr [(60, 16), (60, 17), (60, 20), (60, 21), (60, 22), (60, 23), (60, 24), (60, 25), (60, 26), (60, 28), (60, 34), (60, 35), (69, 99999), (70, 99999)] σ r.2 := by
  unfold f_Mo_readsMove_60_J46 at h
  try dsimp only at h
  obtain ⟨q8, q8h, h⟩ := x_bind h
  try dsimp only at h
  have q8f := fr_Mo_numberHere_60 q8h
  refine x_iteC h (fun h => ?_) (fun h => ?_)
  · skip
    cases h
    exact (x_fr.trans x_fr.rf (x_fr.su q8f rfl))
  · skip
    refine x_iteC h (fun h => ?_) (fun h => ?_)
    · skip
      exact x_fr.trans (x_fr.trans x_fr.rf (x_fr.su q8f rfl)) (x_fr.su (fr_Mo_readsMove_60_J78 h) rfl)
    · skip
      obtain ⟨q9, q9h, h⟩ := x_bind h
      try dsimp only at h
      have q9f := fr_Mo_wrong_60 q9h
      exact x_fr.trans (x_fr.trans (x_fr.trans x_fr.rf (x_fr.su q8f rfl)) (x_fr.su q9f rfl)) (x_fr.su (fr_Mo_readsMove_60_J78 h) rfl)
set_option maxHeartbeats 4000000 in
set_option maxRecDepth 100000 in
theorem fr_Mo_readsMove_60_J14 {v1 : Int32} {σ : xS} {r : Unit × xS} (h : f_Mo_readsMove_60_J14 v1 σ = some r) : x_fr [(60, 16), (60, 17), (60, 20), (60, 21), (60, 22), (60, 23), (60, 24), (60, 25), (60, 26), (60, 28), (60, 34), (60, 35), (69, 99999), (70, 99999)] σ r.2 := by
  unfold f_Mo_readsMove_60_J14 at h
  try dsimp only at h
  obtain ⟨q10, q10h, h⟩ := x_bind h
  try dsimp only at h
  have q10f := fr_Mo_isGood_60 q10h
  refine x_iteC h (fun h => ?_) (fun h => ?_)
  · skip
    cases h
    exact (x_fr.trans x_fr.rf (x_fr.su q10f rfl))
  · skip
    obtain ⟨q11, q11h, h⟩ := x_bind h
    try dsimp only at h
    have q11f := fr_Mo_goes_60 q11h
    refine x_iteC h (fun h => ?_) (fun h => ?_)
    · skip
      obtain ⟨q12, q12h, h⟩ := x_bind h
      try dsimp only at h
      have q12f := fr_Mo_number_60 q12h
      exact x_fr.trans (x_fr.trans (x_fr.trans (x_fr.trans x_fr.rf (x_fr.su q10f rfl)) (x_fr.su q11f rfl)) (x_fr.su q12f rfl)) (x_fr.su (fr_Mo_readsMove_60_J46 h) rfl)
    · skip
      exact x_fr.trans (x_fr.trans (x_fr.trans x_fr.rf (x_fr.su q10f rfl)) (x_fr.su q11f rfl)) (x_fr.su (fr_Mo_readsMove_60_J46 h) rfl)
set_option maxHeartbeats 4000000 in
set_option maxRecDepth 100000 in
theorem fr_Mo_readsMove_60 {v1 : Int32} {σ : xS} {r : Unit × xS} (h : f_Mo_readsMove_60 v1 σ = some r) : x_fr [(60, 16), (60, 17), (60, 20), (60, 21), (60, 22), (60, 23), (60, 24), (60, 25), (60, 26), (60, 28), (60, 34), (60, 35), (69, 99999), (70, 99999)] σ r.2 := by
  unfold f_Mo_readsMove_60 at h
  try dsimp only at h
  refine x_iteC h (fun h => ?_) (fun h => ?_)
  · skip
    obtain ⟨q13, q13h, h⟩ := x_bind h
    try dsimp only at h
    have q13f := fr_Mo_wrong_60 q13h
    exact x_fr.trans (x_fr.trans x_fr.rf (x_fr.su q13f rfl)) (x_fr.su (fr_Mo_readsMove_60_J14 h) rfl)
  · skip
    exact x_fr.trans x_fr.rf (x_fr.su (fr_Mo_readsMove_60_J14 h) rfl)
set_option maxHeartbeats 4000000 in
set_option maxRecDepth 100000 in
theorem fr_Mo_readsChange_60_J50 {v1 : Int32} {y0 : Int32} {σ : xS} {r : Unit × xS} (h : f_Mo_readsChange_60_J50 v1 y0 σ = some r) : x_fr [(60, 16), (60, 17), (60, 20), (60, 21), (60, 22), (60, 23), (60, 24), (60, 25), (60, 26), (60, 29), (71, 99999), (72, 99999)] σ r.2 := by
  unfold f_Mo_readsChange_60_J50 at h
  try dsimp only at h
  obtain ⟨q1, q1h, h⟩ := x_bind h
  try dsimp only at h
  have q1f := fr_Mo_number_60 q1h
  obtain ⟨q3, q3h, h⟩ := x_bind h
  try dsimp only at h
  have q3f := fr_Mo_isGood_60 q3h
  refine x_iteC h (fun h => ?_) (fun h => ?_)
  · skip
    cases h
    exact (x_fr.trans (x_fr.trans x_fr.rf (x_fr.su q1f rfl)) (x_fr.su q3f rfl))
  · skip
    obtain ⟨-, h⟩ := x_ifn h
    obtain ⟨-, h⟩ := x_ifn h
    cases h
    exact (x_frI (p := 60) (k := 29) rfl (x_frI (p := 72) rfl (x_frI (p := 71) rfl (x_fr.trans (x_fr.trans x_fr.rf (x_fr.su q1f rfl)) (x_fr.su q3f rfl)))))
set_option maxHeartbeats 4000000 in
set_option maxRecDepth 100000 in
theorem fr_Mo_readsChange_60_J14 {v1 : Int32} {σ : xS} {r : Unit × xS} (h : f_Mo_readsChange_60_J14 v1 σ = some r) : x_fr [(60, 16), (60, 17), (60, 20), (60, 21), (60, 22), (60, 23), (60, 24), (60, 25), (60, 26), (60, 29), (71, 99999), (72, 99999)] σ r.2 := by
  unfold f_Mo_readsChange_60_J14 at h
  try dsimp only at h
  obtain ⟨q7, q7h, h⟩ := x_bind h
  try dsimp only at h
  have q7f := fr_Mo_isGood_60 q7h
  refine x_iteC h (fun h => ?_) (fun h => ?_)
  · skip
    cases h
    exact (x_fr.trans x_fr.rf (x_fr.su q7f rfl))
  · skip
    obtain ⟨q8, q8h, h⟩ := x_bind h
    try dsimp only at h
    have q8f := fr_Mo_goes_60 q8h
    refine x_iteC h (fun h => ?_) (fun h => ?_)
    · skip
      exact x_fr.trans (x_fr.trans (x_fr.trans x_fr.rf (x_fr.su q7f rfl)) (x_fr.su q8f rfl)) (x_fr.su (fr_Mo_readsChange_60_J50 h) rfl)
    · skip
      obtain ⟨-, h⟩ := x_ifn h
      exact x_fr.trans (x_fr.trans (x_fr.trans x_fr.rf (x_fr.su q7f rfl)) (x_fr.su q8f rfl)) (x_fr.su (fr_Mo_readsChange_60_J50 h) rfl)
set_option maxHeartbeats 4000000 in
set_option maxRecDepth 100000 in
theorem fr_Mo_readsChange_60 {v1 : Int32} {σ : xS} {r : Unit × xS} (h : f_Mo_readsChange_60 v1 σ = some r) : x_fr [(60, 16), (60, 17), (60, 20), (60, 21), (60, 22), (60, 23), (60, 24), (60, 25), (60, 26), (60, 29), (71, 99999), (72, 99999)] σ r.2 := by
  unfold f_Mo_readsChange_60 at h
  try dsimp only at h
  refine x_iteC h (fun h => ?_) (fun h => ?_)
  · skip
    obtain ⟨q9, q9h, h⟩ := x_bind h
    try dsimp only at h
    have q9f := fr_Mo_wrong_60 q9h
    exact x_fr.trans (x_fr.trans x_fr.rf (x_fr.su q9f rfl)) (x_fr.su (fr_Mo_readsChange_60_J14 h) rfl)
  · skip
    exact x_fr.trans x_fr.rf (x_fr.su (fr_Mo_readsChange_60_J14 h) rfl)
set_option maxHeartbeats 4000000 in
set_option maxRecDepth 100000 in
theorem fr_Mo_readsMark_60_L41 {a : Int32 × xS} {o : (Int32 × xS) ⊕ (Int32 × xS)} (h : f_Mo_readsMark_60_L41 a = some o) : x_frO [(60, 16), (60, 17)] (fun a => a.2) (fun b => b.2) a.2 o := by
  unfold f_Mo_readsMark_60_L41 at h
  try dsimp only at h
  refine x_iteC h (fun h => ?_) (fun h => ?_)
  · skip
    cases h
    exact x_frO.b x_fr.rf
  · skip
    obtain ⟨q1, q1h, h⟩ := x_bind h
    try dsimp only at h
    have q1f := fr_Mo_isGood_60 q1h
    refine x_iteC h (fun h => ?_) (fun h => ?_)
    · skip
      cases h
      exact x_frO.b (x_fr.trans x_fr.rf (x_fr.su q1f rfl))
    · skip
      obtain ⟨-, h⟩ := x_ifn h
      refine x_iteC h (fun h => ?_) (fun h => ?_)
      · skip
        obtain ⟨q3, q3h, h⟩ := x_bind h
        try dsimp only at h
        have q3f := fr_Mo_wrong_60 q3h
        cases h
        exact x_frO.a1 (x_fr.trans (x_fr.trans x_fr.rf (x_fr.su q1f rfl)) (x_fr.su q3f rfl))
      · skip
        cases h
        exact x_frO.a1 (x_fr.trans x_fr.rf (x_fr.su q1f rfl))
set_option maxHeartbeats 4000000 in
set_option maxRecDepth 100000 in
theorem fr_Mo_readsMark_60_J80 {σ : xS} {r : Unit × xS} (h : f_Mo_readsMark_60_J80 σ = some r) : x_fr [(60, 20), (60, 21), (60, 22), (60, 23), (60, 24), (60, 25), (60, 26), (60, 30), (73, 99999)] σ r.2 := by
  unfold f_Mo_readsMark_60_J80 at h
  try dsimp only at h
  obtain ⟨q5, q5h, h⟩ := x_bind h
  try dsimp only at h
  have q5f := fr_Mo_isGood_60 q5h
  refine x_iteC h (fun h => ?_) (fun h => ?_)
  · skip
    cases h
    exact (x_fr.trans x_fr.rf (x_fr.su q5f rfl))
  · skip
    obtain ⟨-, h⟩ := x_ifn h
    obtain ⟨q8, q8h, h⟩ := x_bind h
    try dsimp only at h
    have q8f := fr_Mo_goes_60 q8h
    cases h
    exact (x_fr.trans (x_frI (p := 60) (k := 30) rfl (x_frI (p := 73) rfl (x_fr.trans x_fr.rf (x_fr.su q5f rfl)))) (x_fr.su q8f rfl))
set_option maxHeartbeats 4000000 in
set_option maxRecDepth 100000 in
theorem fr_Mo_readsMark_60_J14 {σ : xS} {r : Unit × xS} (h : f_Mo_readsMark_60_J14 σ = some r) : x_fr [(60, 16), (60, 17), (60, 20), (60, 21), (60, 22), (60, 23), (60, 24), (60, 25), (60, 26), (60, 30), (73, 99999)] σ r.2 := by
  unfold f_Mo_readsMark_60_J14 at h
  try dsimp only at h
  obtain ⟨q9, q9h, h⟩ := x_bind h
  try dsimp only at h
  have q9f := fr_Mo_isGood_60 q9h
  refine x_iteC h (fun h => ?_) (fun h => ?_)
  · skip
    cases h
    exact (x_fr.trans x_fr.rf (x_fr.su q9f rfl))
  · skip
    obtain ⟨q10, q10h, h⟩ := x_bind h
    try dsimp only at h
    have q10f := fr_Mo_goes_60 q10h
    obtain ⟨q11, q11h, h⟩ := x_bind h
    try dsimp only at h
    have q11f := fr_Mo_numberHere_60 q11h
    refine x_iteC h (fun h => ?_) (fun h => ?_)
    · skip
      cases h
      exact (x_fr.trans (x_fr.trans (x_fr.trans x_fr.rf (x_fr.su q9f rfl)) (x_fr.su q10f rfl)) (x_fr.su q11f rfl))
    · skip
      obtain ⟨b12, b12h, h⟩ := x_bind h
      try dsimp only at h
      have b12f := x_itF (sA := (fun a => a.2)) (sB := (fun b => b.2)) (fun a o h => fr_Mo_readsMark_60_L41 h) _ _ _ b12h
      exact x_fr.trans (x_fr.trans (x_fr.trans (x_fr.trans (x_fr.trans x_fr.rf (x_fr.su q9f rfl)) (x_fr.su q10f rfl)) (x_fr.su q11f rfl)) (x_fr.su b12f rfl)) (x_fr.su (fr_Mo_readsMark_60_J80 h) rfl)
set_option maxHeartbeats 4000000 in
set_option maxRecDepth 100000 in
theorem fr_Mo_readsMark_60 {σ : xS} {r : Unit × xS} (h : f_Mo_readsMark_60 σ = some r) : x_fr [(60, 16), (60, 17), (60, 20), (60, 21), (60, 22), (60, 23), (60, 24), (60, 25), (60, 26), (60, 30), (73, 99999)] σ r.2 := by
  unfold f_Mo_readsMark_60 at h
  try dsimp only at h
  refine x_iteC h (fun h => ?_) (fun h => ?_)
  · skip
    obtain ⟨q13, q13h, h⟩ := x_bind h
    try dsimp only at h
    have q13f := fr_Mo_wrong_60 q13h
    exact x_fr.trans (x_fr.trans x_fr.rf (x_fr.su q13f rfl)) (x_fr.su (fr_Mo_readsMark_60_J14 h) rfl)
  · skip
    exact x_fr.trans x_fr.rf (x_fr.su (fr_Mo_readsMark_60_J14 h) rfl)
set_option maxHeartbeats 4000000 in
set_option maxRecDepth 100000 in
theorem fr_Mo_readsRule_60_J95 {v1 : Int32} {σ : xS} {r : Unit × xS} (h : f_Mo_readsRule_60_J95 v1 σ = some r) : x_fr [(60, 16), (60, 17), (60, 20), (60, 21), (60, 22), (60, 23), (60, 24), (60, 25), (60, 26), (60, 38), (60, 39), (60, 40), (60, 41), (60, 42), (76, 99999), (77, 99999), (78, 99999)] σ r.2 := by
  unfold f_Mo_readsRule_60_J95 at h
  try dsimp only at h
  refine x_iteC h (fun h => ?_) (fun h => ?_)
  · skip
    obtain ⟨q2, q2h, h⟩ := x_bind h
    try dsimp only at h
    have q2f := fr_Mo_expression_60 q2h
    cases h
    exact (x_fr.trans x_fr.rf (x_fr.su q2f rfl))
  · skip
    obtain ⟨q1, q1h, h⟩ := x_bind h
    try dsimp only at h
    have q1f := fr_Mo_expression_60 q1h
    cases h
    exact (x_fr.trans x_fr.rf (x_fr.su q1f rfl))
set_option maxHeartbeats 4000000 in
set_option maxRecDepth 100000 in
theorem fr_Mo_readsRule_60_J19 {σ : xS} {r : Unit × xS} (h : f_Mo_readsRule_60_J19 σ = some r) : x_fr [(60, 16), (60, 17), (60, 20), (60, 21), (60, 22), (60, 23), (60, 24), (60, 25), (60, 26), (60, 31), (60, 38), (60, 39), (60, 40), (60, 41), (60, 42), (75, 99999), (76, 99999), (77, 99999), (78, 99999)] σ r.2 := by
  unfold f_Mo_readsRule_60_J19 at h
  try dsimp only at h
  obtain ⟨q3, q3h, h⟩ := x_bind h
  try dsimp only at h
  have q3f := fr_Mo_isGood_60 q3h
  refine x_iteC h (fun h => ?_) (fun h => ?_)
  · skip
    cases h
    exact (x_fr.trans x_fr.rf (x_fr.su q3f rfl))
  · skip
    obtain ⟨q4, q4h, h⟩ := x_bind h
    try dsimp only at h
    have q4f := fr_Mo_goes_60 q4h
    obtain ⟨-, h⟩ := x_ifn h
    obtain ⟨q7, q7h, h⟩ := x_bind h
    try dsimp only at h
    have q7f := fr_Mo_expression_60 q7h
    cases h
    exact (x_fr.trans (x_frI (p := 60) (k := 31) rfl (x_frI (p := 75) rfl (x_fr.trans (x_fr.trans x_fr.rf (x_fr.su q3f rfl)) (x_fr.su q4f rfl)))) (x_fr.su q7f rfl))
set_option maxHeartbeats 4000000 in
set_option maxRecDepth 100000 in
theorem fr_Mo_readsRule_60 {v1 : Int32} {σ : xS} {r : Unit × xS} (h : f_Mo_readsRule_60 v1 σ = some r) : x_fr [(60, 16), (60, 17), (60, 20), (60, 21), (60, 22), (60, 23), (60, 24), (60, 25), (60, 26), (60, 31), (60, 32), (60, 33), (60, 37), (60, 38), (60, 39), (60, 40), (60, 41), (60, 42), (75, 99999), (76, 99999), (77, 99999), (78, 99999)] σ r.2 := by
  unfold f_Mo_readsRule_60 at h
  try dsimp only at h
  refine x_iteC h (fun h => ?_) (fun h => ?_)
  · skip
    refine x_iteC h (fun h => ?_) (fun h => ?_)
    · skip
      obtain ⟨q11, q11h, h⟩ := x_bind h
      try dsimp only at h
      have q11f := fr_Mo_wrong_60 q11h
      exact x_fr.trans (x_fr.trans x_fr.rf (x_fr.su q11f rfl)) (x_fr.su (fr_Mo_readsRule_60_J19 h) rfl)
    · skip
      exact x_fr.trans x_fr.rf (x_fr.su (fr_Mo_readsRule_60_J19 h) rfl)
  · skip
    obtain ⟨q8, q8h, h⟩ := x_bind h
    try dsimp only at h
    have q8f := fr_Mo_once_60 q8h
    refine x_iteC h (fun h => ?_) (fun h => ?_)
    · skip
      cases h
      exact (x_fr.trans x_fr.rf (x_fr.su q8f rfl))
    · skip
      refine x_iteC h (fun h => ?_) (fun h => ?_)
      · skip
        exact x_fr.trans (x_frI (p := 60) (k := 32) rfl (x_fr.trans x_fr.rf (x_fr.su q8f rfl))) (x_fr.su (fr_Mo_readsRule_60_J95 h) rfl)
      · skip
        exact x_fr.trans (x_frI (p := 60) (k := 33) rfl (x_fr.trans x_fr.rf (x_fr.su q8f rfl))) (x_fr.su (fr_Mo_readsRule_60_J95 h) rfl)
set_option maxHeartbeats 4000000 in
set_option maxRecDepth 100000 in
theorem fr_Mo_line_60_J253 {v2 : Int32} {σ : xS} {r : Unit × xS} (h : f_Mo_line_60_J253 v2 σ = some r) : x_fr [(60, 16), (60, 17), (60, 20), (60, 21), (60, 22), (60, 23), (60, 24), (60, 25), (60, 26), (74, 99999)] σ r.2 := by
  unfold f_Mo_line_60_J253 at h
  try dsimp only at h
  obtain ⟨q1, q1h, h⟩ := x_bind h
  try dsimp only at h
  have q1f := fr_Mo_number_60 q1h
  refine x_iteC h (fun h => ?_) (fun h => ?_)
  · skip
    obtain ⟨q4, q4h, h⟩ := x_bind h
    try dsimp only at h
    have q4f := fr_Mo_isSign_60 q4h
    obtain ⟨q5, q5h, h⟩ := x_bind h
    try dsimp only at h
    have q5f := fr_Mo_need_60 q5h
    cases h
    exact (x_fr.trans (x_fr.trans (x_frI (p := 74) (k := 3) rfl (x_fr.trans x_fr.rf (x_fr.su q1f rfl))) (x_fr.su q4f rfl)) (x_fr.su q5f rfl))
  · skip
    obtain ⟨q7, q7h, h⟩ := x_bind h
    try dsimp only at h
    have q7f := fr_Mo_isSign_60 q7h
    obtain ⟨q8, q8h, h⟩ := x_bind h
    try dsimp only at h
    have q8f := fr_Mo_need_60 q8h
    cases h
    exact (x_fr.trans (x_fr.trans (x_frI (p := 74) (k := 3) rfl (x_fr.trans x_fr.rf (x_fr.su q1f rfl))) (x_fr.su q7f rfl)) (x_fr.su q8f rfl))
set_option maxHeartbeats 4000000 in
set_option maxRecDepth 100000 in
theorem fr_Mo_line_60_J47 {v1 : Int32} {σ : xS} {r : Unit × xS} (h : f_Mo_line_60_J47 v1 σ = some r) : x_fr [(60, 16), (60, 17), (60, 20), (60, 21), (60, 22), (60, 23), (60, 24), (60, 25), (60, 26), (60, 29), (71, 99999), (72, 99999)] σ r.2 := by
  unfold f_Mo_line_60_J47 at h
  try dsimp only at h
  refine x_iteC h (fun h => ?_) (fun h => ?_)
  · skip
    obtain ⟨q12, q12h, h⟩ := x_bind h
    try dsimp only at h
    have q12f := fr_Mo_readsChange_60 q12h
    obtain ⟨q13, q13h, h⟩ := x_bind h
    try dsimp only at h
    have q13f := fr_Mo_isSign_60 q13h
    obtain ⟨q14, q14h, h⟩ := x_bind h
    try dsimp only at h
    have q14f := fr_Mo_need_60 q14h
    cases h
    exact (x_fr.trans (x_fr.trans (x_fr.trans x_fr.rf (x_fr.su q12f rfl)) (x_fr.su q13f rfl)) (x_fr.su q14f rfl))
  · skip
    obtain ⟨q9, q9h, h⟩ := x_bind h
    try dsimp only at h
    have q9f := fr_Mo_readsChange_60 q9h
    obtain ⟨q10, q10h, h⟩ := x_bind h
    try dsimp only at h
    have q10f := fr_Mo_isSign_60 q10h
    obtain ⟨q11, q11h, h⟩ := x_bind h
    try dsimp only at h
    have q11f := fr_Mo_need_60 q11h
    cases h
    exact (x_fr.trans (x_fr.trans (x_fr.trans x_fr.rf (x_fr.su q9f rfl)) (x_fr.su q10f rfl)) (x_fr.su q11f rfl))
set_option maxHeartbeats 4000000 in
set_option maxRecDepth 100000 in
theorem fr_Mo_line_60_J17 {v1 : Int32} {σ : xS} {r : Unit × xS} (h : f_Mo_line_60_J17 v1 σ = some r) : x_fr [(60, 16), (60, 17), (60, 20), (60, 21), (60, 22), (60, 23), (60, 24), (60, 25), (60, 26), (60, 28), (60, 34), (60, 35), (69, 99999), (70, 99999)] σ r.2 := by
  unfold f_Mo_line_60_J17 at h
  try dsimp only at h
  refine x_iteC h (fun h => ?_) (fun h => ?_)
  · skip
    obtain ⟨q18, q18h, h⟩ := x_bind h
    try dsimp only at h
    have q18f := fr_Mo_readsMove_60 q18h
    obtain ⟨q19, q19h, h⟩ := x_bind h
    try dsimp only at h
    have q19f := fr_Mo_isSign_60 q19h
    obtain ⟨q20, q20h, h⟩ := x_bind h
    try dsimp only at h
    have q20f := fr_Mo_need_60 q20h
    cases h
    exact (x_fr.trans (x_fr.trans (x_fr.trans x_fr.rf (x_fr.su q18f rfl)) (x_fr.su q19f rfl)) (x_fr.su q20f rfl))
  · skip
    obtain ⟨q15, q15h, h⟩ := x_bind h
    try dsimp only at h
    have q15f := fr_Mo_readsMove_60 q15h
    obtain ⟨q16, q16h, h⟩ := x_bind h
    try dsimp only at h
    have q16f := fr_Mo_isSign_60 q16h
    obtain ⟨q17, q17h, h⟩ := x_bind h
    try dsimp only at h
    have q17f := fr_Mo_need_60 q17h
    cases h
    exact (x_fr.trans (x_fr.trans (x_fr.trans x_fr.rf (x_fr.su q15f rfl)) (x_fr.su q16f rfl)) (x_fr.su q17f rfl))
set_option maxHeartbeats 4000000 in
set_option maxRecDepth 100000 in
theorem fr_Mo_line_60 {σ : xS} {r : Unit × xS} (h : f_Mo_line_60 σ = some r) : x_fr [(60, 16), (60, 17), (60, 20), (60, 21), (60, 22), (60, 23), (60, 24), (60, 25), (60, 26), (60, 28), (60, 29), (60, 30), (60, 31), (60, 32), (60, 33), (60, 34), (60, 35), (60, 37), (60, 38), (60, 39), (60, 40), (60, 41), (60, 42), (69, 99999), (70, 99999), (71, 99999), (72, 99999), (73, 99999), (74, 99999), (75, 99999), (76, 99999), (77, 99999), (78, 99999)] σ r.2 := by
  unfold f_Mo_line_60 at h
  try dsimp only at h
  obtain ⟨q21, q21h, h⟩ := x_bind h
  try dsimp only at h
  have q21f := fr_Mo_knownWord_60 q21h
  refine x_iteC h (fun h => ?_) (fun h => ?_)
  · skip
    exact x_fr.trans (x_fr.trans x_fr.rf (x_fr.su q21f rfl)) (x_fr.su (fr_Mo_line_60_J17 h) rfl)
  · skip
    refine x_iteC h (fun h => ?_) (fun h => ?_)
    · skip
      exact x_fr.trans (x_fr.trans x_fr.rf (x_fr.su q21f rfl)) (x_fr.su (fr_Mo_line_60_J17 h) rfl)
    · skip
      refine x_iteC h (fun h => ?_) (fun h => ?_)
      · skip
        exact x_fr.trans (x_fr.trans x_fr.rf (x_fr.su q21f rfl)) (x_fr.su (fr_Mo_line_60_J47 h) rfl)
      · skip
        refine x_iteC h (fun h => ?_) (fun h => ?_)
        · skip
          exact x_fr.trans (x_fr.trans x_fr.rf (x_fr.su q21f rfl)) (x_fr.su (fr_Mo_line_60_J47 h) rfl)
        · skip
          refine x_iteC h (fun h => ?_) (fun h => ?_)
          · skip
            obtain ⟨q67, q67h, h⟩ := x_bind h
            try dsimp only at h
            have q67f := fr_Mo_readsMark_60 q67h
            obtain ⟨q68, q68h, h⟩ := x_bind h
            try dsimp only at h
            have q68f := fr_Mo_isSign_60 q68h
            obtain ⟨q69, q69h, h⟩ := x_bind h
            try dsimp only at h
            have q69f := fr_Mo_need_60 q69h
            cases h
            exact (x_fr.trans (x_fr.trans (x_fr.trans (x_fr.trans x_fr.rf (x_fr.su q21f rfl)) (x_fr.su q67f rfl)) (x_fr.su q68f rfl)) (x_fr.su q69f rfl))
          · skip
            refine x_iteC h (fun h => ?_) (fun h => ?_)
            · skip
              obtain ⟨q23, q23h, h⟩ := x_bind h
              try dsimp only at h
              have q23f := fr_Mo_readsRule_60 q23h
              obtain ⟨q24, q24h, h⟩ := x_bind h
              try dsimp only at h
              have q24f := fr_Mo_isSign_60 q24h
              obtain ⟨q25, q25h, h⟩ := x_bind h
              try dsimp only at h
              have q25f := fr_Mo_need_60 q25h
              cases h
              exact (x_fr.trans (x_fr.trans (x_fr.trans (x_fr.trans x_fr.rf (x_fr.su q21f rfl)) (x_fr.su q23f rfl)) (x_fr.su q24f rfl)) (x_fr.su q25f rfl))
            · skip
              refine x_iteC h (fun h => ?_) (fun h => ?_)
              · skip
                obtain ⟨q26, q26h, h⟩ := x_bind h
                try dsimp only at h
                have q26f := fr_Mo_readsRule_60 q26h
                obtain ⟨q27, q27h, h⟩ := x_bind h
                try dsimp only at h
                have q27f := fr_Mo_isSign_60 q27h
                obtain ⟨q28, q28h, h⟩ := x_bind h
                try dsimp only at h
                have q28f := fr_Mo_need_60 q28h
                cases h
                exact (x_fr.trans (x_fr.trans (x_fr.trans (x_fr.trans x_fr.rf (x_fr.su q21f rfl)) (x_fr.su q26f rfl)) (x_fr.su q27f rfl)) (x_fr.su q28f rfl))
              · skip
                refine x_iteC h (fun h => ?_) (fun h => ?_)
                · skip
                  obtain ⟨q64, q64h, h⟩ := x_bind h
                  try dsimp only at h
                  have q64f := fr_Mo_readsRule_60 q64h
                  obtain ⟨q65, q65h, h⟩ := x_bind h
                  try dsimp only at h
                  have q65f := fr_Mo_isSign_60 q65h
                  obtain ⟨q66, q66h, h⟩ := x_bind h
                  try dsimp only at h
                  have q66f := fr_Mo_need_60 q66h
                  cases h
                  exact (x_fr.trans (x_fr.trans (x_fr.trans (x_fr.trans x_fr.rf (x_fr.su q21f rfl)) (x_fr.su q64f rfl)) (x_fr.su q65f rfl)) (x_fr.su q66f rfl))
                · skip
                  refine x_iteC h (fun h => ?_) (fun h => ?_)
                  · skip
                    obtain ⟨q57, q57h, h⟩ := x_bind h
                    try dsimp only at h
                    have q57f := fr_Mo_once_60 q57h
                    refine x_iteC h (fun h => ?_) (fun h => ?_)
                    · skip
                      obtain ⟨q58, q58h, h⟩ := x_bind h
                      try dsimp only at h
                      have q58f := fr_Mo_isSign_60 q58h
                      obtain ⟨q59, q59h, h⟩ := x_bind h
                      try dsimp only at h
                      have q59f := fr_Mo_need_60 q59h
                      cases h
                      exact (x_fr.trans (x_fr.trans (x_fr.trans (x_fr.trans x_fr.rf (x_fr.su q21f rfl)) (x_fr.su q57f rfl)) (x_fr.su q58f rfl)) (x_fr.su q59f rfl))
                    · skip
                      obtain ⟨q60, q60h, h⟩ := x_bind h
                      try dsimp only at h
                      have q60f := fr_Mo_number_60 q60h
                      obtain ⟨q62, q62h, h⟩ := x_bind h
                      try dsimp only at h
                      have q62f := fr_Mo_isSign_60 q62h
                      obtain ⟨q63, q63h, h⟩ := x_bind h
                      try dsimp only at h
                      have q63f := fr_Mo_need_60 q63h
                      cases h
                      exact (x_fr.trans (x_fr.trans (x_frI (p := 74) (k := 4) rfl (x_fr.trans (x_fr.trans (x_fr.trans x_fr.rf (x_fr.su q21f rfl)) (x_fr.su q57f rfl)) (x_fr.su q60f rfl))) (x_fr.su q62f rfl)) (x_fr.su q63f rfl))
                  · skip
                    refine x_iteC h (fun h => ?_) (fun h => ?_)
                    · skip
                      obtain ⟨q50, q50h, h⟩ := x_bind h
                      try dsimp only at h
                      have q50f := fr_Mo_once_60 q50h
                      refine x_iteC h (fun h => ?_) (fun h => ?_)
                      · skip
                        obtain ⟨q51, q51h, h⟩ := x_bind h
                        try dsimp only at h
                        have q51f := fr_Mo_isSign_60 q51h
                        obtain ⟨q52, q52h, h⟩ := x_bind h
                        try dsimp only at h
                        have q52f := fr_Mo_need_60 q52h
                        cases h
                        exact (x_fr.trans (x_fr.trans (x_fr.trans (x_fr.trans x_fr.rf (x_fr.su q21f rfl)) (x_fr.su q50f rfl)) (x_fr.su q51f rfl)) (x_fr.su q52f rfl))
                      · skip
                        obtain ⟨q53, q53h, h⟩ := x_bind h
                        try dsimp only at h
                        have q53f := fr_Mo_number_60 q53h
                        obtain ⟨q55, q55h, h⟩ := x_bind h
                        try dsimp only at h
                        have q55f := fr_Mo_isSign_60 q55h
                        obtain ⟨q56, q56h, h⟩ := x_bind h
                        try dsimp only at h
                        have q56f := fr_Mo_need_60 q56h
                        cases h
                        exact (x_fr.trans (x_fr.trans (x_frI (p := 74) (k := 0) rfl (x_fr.trans (x_fr.trans (x_fr.trans x_fr.rf (x_fr.su q21f rfl)) (x_fr.su q50f rfl)) (x_fr.su q53f rfl))) (x_fr.su q55f rfl)) (x_fr.su q56f rfl))
                    · skip
                      refine x_iteC h (fun h => ?_) (fun h => ?_)
                      · skip
                        obtain ⟨q43, q43h, h⟩ := x_bind h
                        try dsimp only at h
                        have q43f := fr_Mo_once_60 q43h
                        refine x_iteC h (fun h => ?_) (fun h => ?_)
                        · skip
                          obtain ⟨q44, q44h, h⟩ := x_bind h
                          try dsimp only at h
                          have q44f := fr_Mo_isSign_60 q44h
                          obtain ⟨q45, q45h, h⟩ := x_bind h
                          try dsimp only at h
                          have q45f := fr_Mo_need_60 q45h
                          cases h
                          exact (x_fr.trans (x_fr.trans (x_fr.trans (x_fr.trans x_fr.rf (x_fr.su q21f rfl)) (x_fr.su q43f rfl)) (x_fr.su q44f rfl)) (x_fr.su q45f rfl))
                        · skip
                          obtain ⟨q46, q46h, h⟩ := x_bind h
                          try dsimp only at h
                          have q46f := fr_Mo_number_60 q46h
                          obtain ⟨q48, q48h, h⟩ := x_bind h
                          try dsimp only at h
                          have q48f := fr_Mo_isSign_60 q48h
                          obtain ⟨q49, q49h, h⟩ := x_bind h
                          try dsimp only at h
                          have q49f := fr_Mo_need_60 q49h
                          cases h
                          exact (x_fr.trans (x_fr.trans (x_frI (p := 74) (k := 1) rfl (x_fr.trans (x_fr.trans (x_fr.trans x_fr.rf (x_fr.su q21f rfl)) (x_fr.su q43f rfl)) (x_fr.su q46f rfl))) (x_fr.su q48f rfl)) (x_fr.su q49f rfl))
                      · skip
                        refine x_iteC h (fun h => ?_) (fun h => ?_)
                        · skip
                          obtain ⟨q36, q36h, h⟩ := x_bind h
                          try dsimp only at h
                          have q36f := fr_Mo_once_60 q36h
                          refine x_iteC h (fun h => ?_) (fun h => ?_)
                          · skip
                            obtain ⟨q37, q37h, h⟩ := x_bind h
                            try dsimp only at h
                            have q37f := fr_Mo_isSign_60 q37h
                            obtain ⟨q38, q38h, h⟩ := x_bind h
                            try dsimp only at h
                            have q38f := fr_Mo_need_60 q38h
                            cases h
                            exact (x_fr.trans (x_fr.trans (x_fr.trans (x_fr.trans x_fr.rf (x_fr.su q21f rfl)) (x_fr.su q36f rfl)) (x_fr.su q37f rfl)) (x_fr.su q38f rfl))
                          · skip
                            obtain ⟨q39, q39h, h⟩ := x_bind h
                            try dsimp only at h
                            have q39f := fr_Mo_number_60 q39h
                            obtain ⟨q41, q41h, h⟩ := x_bind h
                            try dsimp only at h
                            have q41f := fr_Mo_isSign_60 q41h
                            obtain ⟨q42, q42h, h⟩ := x_bind h
                            try dsimp only at h
                            have q42f := fr_Mo_need_60 q42h
                            cases h
                            exact (x_fr.trans (x_fr.trans (x_frI (p := 74) (k := 2) rfl (x_fr.trans (x_fr.trans (x_fr.trans x_fr.rf (x_fr.su q21f rfl)) (x_fr.su q36f rfl)) (x_fr.su q39f rfl))) (x_fr.su q41f rfl)) (x_fr.su q42f rfl))
                        · skip
                          refine x_iteC h (fun h => ?_) (fun h => ?_)
                          · skip
                            obtain ⟨q32, q32h, h⟩ := x_bind h
                            try dsimp only at h
                            have q32f := fr_Mo_once_60 q32h
                            refine x_iteC h (fun h => ?_) (fun h => ?_)
                            · skip
                              cases h
                              exact (x_fr.trans (x_fr.trans x_fr.rf (x_fr.su q21f rfl)) (x_fr.su q32f rfl))
                            · skip
                              obtain ⟨q33, q33h, h⟩ := x_bind h
                              try dsimp only at h
                              have q33f := fr_Mo_isSign_60 q33h
                              refine x_iteC h (fun h => ?_) (fun h => ?_)
                              · skip
                                exact x_fr.trans (x_fr.trans (x_fr.trans (x_fr.trans x_fr.rf (x_fr.su q21f rfl)) (x_fr.su q32f rfl)) (x_fr.su q33f rfl)) (x_fr.su (fr_Mo_line_60_J253 h) rfl)
                              · skip
                                obtain ⟨q35, q35h, h⟩ := x_bind h
                                try dsimp only at h
                                have q35f := fr_Mo_goes_60 q35h
                                exact x_fr.trans (x_fr.trans (x_fr.trans (x_fr.trans (x_fr.trans x_fr.rf (x_fr.su q21f rfl)) (x_fr.su q32f rfl)) (x_fr.su q33f rfl)) (x_fr.su q35f rfl)) (x_fr.su (fr_Mo_line_60_J253 h) rfl)
                          · skip
                            obtain ⟨q29, q29h, h⟩ := x_bind h
                            try dsimp only at h
                            have q29f := fr_Mo_wrong_60 q29h
                            obtain ⟨q30, q30h, h⟩ := x_bind h
                            try dsimp only at h
                            have q30f := fr_Mo_isSign_60 q30h
                            obtain ⟨q31, q31h, h⟩ := x_bind h
                            try dsimp only at h
                            have q31f := fr_Mo_need_60 q31h
                            cases h
                            exact (x_fr.trans (x_fr.trans (x_fr.trans (x_fr.trans x_fr.rf (x_fr.su q21f rfl)) (x_fr.su q29f rfl)) (x_fr.su q30f rfl)) (x_fr.su q31f rfl))
set_option maxHeartbeats 4000000 in
set_option maxRecDepth 100000 in
theorem fr_Mo_forgetsText_60 {σ : xS} {r : Unit × xS} (h : f_Mo_forgetsText_60 σ = some r) : x_fr [(60, 28), (60, 29), (60, 30), (60, 31), (60, 32), (60, 33), (60, 34), (60, 37), (60, 40), (74, 99999)] σ r.2 := by
  unfold f_Mo_forgetsText_60 at h
  try dsimp only at h
  cases h
  exact (x_frI (p := 74) (k := 4) rfl (x_frI (p := 74) (k := 3) rfl (x_frI (p := 74) (k := 2) rfl (x_frI (p := 74) (k := 1) rfl (x_frI (p := 74) (k := 0) rfl (x_frI (p := 60) (k := 40) rfl (x_frI (p := 60) (k := 37) rfl (x_frI (p := 60) (k := 34) rfl (x_frI (p := 60) (k := 33) rfl (x_frI (p := 60) (k := 32) rfl (x_frI (p := 60) (k := 31) rfl (x_frI (p := 60) (k := 30) rfl (x_frI (p := 60) (k := 29) rfl (x_frI (p := 60) (k := 28) rfl x_fr.rf))))))))))))))
set_option maxHeartbeats 4000000 in
set_option maxRecDepth 100000 in
theorem fr_Mo_copies_60_69_61_L2 {a : Int32 × xS} {o : (Int32 × xS) ⊕ (Int32 × xS)} (h : f_Mo_copies_60_69_61_L2 a = some o) : x_frO [(61, 99999)] (fun a => a.2) (fun b => b.2) a.2 o := by
  unfold f_Mo_copies_60_69_61_L2 at h
  try dsimp only at h
  refine x_iteC h (fun h => ?_) (fun h => ?_)
  · skip
    cases h
    exact x_frO.b x_fr.rf
  · skip
    obtain ⟨-, h⟩ := x_ifn h
    obtain ⟨-, h⟩ := x_ifn h
    cases h
    exact x_frO.a1 (x_frI (p := 61) rfl x_fr.rf)
set_option maxHeartbeats 4000000 in
set_option maxRecDepth 100000 in
theorem fr_Mo_copies_60_69_61 {σ : xS} {r : Unit × xS} (h : f_Mo_copies_60_69_61 σ = some r) : x_fr [(61, 99999)] σ r.2 := by
  unfold f_Mo_copies_60_69_61 at h
  try dsimp only at h
  obtain ⟨b3, b3h, h⟩ := x_bind h
  try dsimp only at h
  have b3f := x_itF (sA := (fun a => a.2)) (sB := (fun b => b.2)) (fun a o h => fr_Mo_copies_60_69_61_L2 h) _ _ _ b3h
  cases h
  exact (x_fr.trans x_fr.rf (x_fr.su b3f rfl))
set_option maxHeartbeats 4000000 in
set_option maxRecDepth 100000 in
theorem fr_Mo_copies_60_70_62_L2 {a : Int32 × xS} {o : (Int32 × xS) ⊕ (Int32 × xS)} (h : f_Mo_copies_60_70_62_L2 a = some o) : x_frO [(62, 99999)] (fun a => a.2) (fun b => b.2) a.2 o := by
  unfold f_Mo_copies_60_70_62_L2 at h
  try dsimp only at h
  refine x_iteC h (fun h => ?_) (fun h => ?_)
  · skip
    cases h
    exact x_frO.b x_fr.rf
  · skip
    obtain ⟨-, h⟩ := x_ifn h
    obtain ⟨-, h⟩ := x_ifn h
    cases h
    exact x_frO.a1 (x_frI (p := 62) rfl x_fr.rf)
set_option maxHeartbeats 4000000 in
set_option maxRecDepth 100000 in
theorem fr_Mo_copies_60_70_62 {σ : xS} {r : Unit × xS} (h : f_Mo_copies_60_70_62 σ = some r) : x_fr [(62, 99999)] σ r.2 := by
  unfold f_Mo_copies_60_70_62 at h
  try dsimp only at h
  obtain ⟨b3, b3h, h⟩ := x_bind h
  try dsimp only at h
  have b3f := x_itF (sA := (fun a => a.2)) (sB := (fun b => b.2)) (fun a o h => fr_Mo_copies_60_70_62_L2 h) _ _ _ b3h
  cases h
  exact (x_fr.trans x_fr.rf (x_fr.su b3f rfl))
set_option maxHeartbeats 4000000 in
set_option maxRecDepth 100000 in
theorem fr_Mo_copies_60_71_63_L2 {a : Int32 × xS} {o : (Int32 × xS) ⊕ (Int32 × xS)} (h : f_Mo_copies_60_71_63_L2 a = some o) : x_frO [(63, 99999)] (fun a => a.2) (fun b => b.2) a.2 o := by
  unfold f_Mo_copies_60_71_63_L2 at h
  try dsimp only at h
  refine x_iteC h (fun h => ?_) (fun h => ?_)
  · skip
    cases h
    exact x_frO.b x_fr.rf
  · skip
    obtain ⟨-, h⟩ := x_ifn h
    obtain ⟨-, h⟩ := x_ifn h
    cases h
    exact x_frO.a1 (x_frI (p := 63) rfl x_fr.rf)
set_option maxHeartbeats 4000000 in
set_option maxRecDepth 100000 in
theorem fr_Mo_copies_60_71_63 {σ : xS} {r : Unit × xS} (h : f_Mo_copies_60_71_63 σ = some r) : x_fr [(63, 99999)] σ r.2 := by
  unfold f_Mo_copies_60_71_63 at h
  try dsimp only at h
  obtain ⟨b3, b3h, h⟩ := x_bind h
  try dsimp only at h
  have b3f := x_itF (sA := (fun a => a.2)) (sB := (fun b => b.2)) (fun a o h => fr_Mo_copies_60_71_63_L2 h) _ _ _ b3h
  cases h
  exact (x_fr.trans x_fr.rf (x_fr.su b3f rfl))
set_option maxHeartbeats 4000000 in
set_option maxRecDepth 100000 in
theorem fr_Mo_copies_60_72_64_L2 {a : Int32 × xS} {o : (Int32 × xS) ⊕ (Int32 × xS)} (h : f_Mo_copies_60_72_64_L2 a = some o) : x_frO [(64, 99999)] (fun a => a.2) (fun b => b.2) a.2 o := by
  unfold f_Mo_copies_60_72_64_L2 at h
  try dsimp only at h
  refine x_iteC h (fun h => ?_) (fun h => ?_)
  · skip
    cases h
    exact x_frO.b x_fr.rf
  · skip
    obtain ⟨-, h⟩ := x_ifn h
    obtain ⟨-, h⟩ := x_ifn h
    cases h
    exact x_frO.a1 (x_frI (p := 64) rfl x_fr.rf)
set_option maxHeartbeats 4000000 in
set_option maxRecDepth 100000 in
theorem fr_Mo_copies_60_72_64 {σ : xS} {r : Unit × xS} (h : f_Mo_copies_60_72_64 σ = some r) : x_fr [(64, 99999)] σ r.2 := by
  unfold f_Mo_copies_60_72_64 at h
  try dsimp only at h
  obtain ⟨b3, b3h, h⟩ := x_bind h
  try dsimp only at h
  have b3f := x_itF (sA := (fun a => a.2)) (sB := (fun b => b.2)) (fun a o h => fr_Mo_copies_60_72_64_L2 h) _ _ _ b3h
  cases h
  exact (x_fr.trans x_fr.rf (x_fr.su b3f rfl))
set_option maxHeartbeats 4000000 in
set_option maxRecDepth 100000 in
theorem fr_Mo_copies_60_75_65_L2 {a : Int32 × xS} {o : (Int32 × xS) ⊕ (Int32 × xS)} (h : f_Mo_copies_60_75_65_L2 a = some o) : x_frO [(65, 99999)] (fun a => a.2) (fun b => b.2) a.2 o := by
  unfold f_Mo_copies_60_75_65_L2 at h
  try dsimp only at h
  refine x_iteC h (fun h => ?_) (fun h => ?_)
  · skip
    cases h
    exact x_frO.b x_fr.rf
  · skip
    obtain ⟨-, h⟩ := x_ifn h
    obtain ⟨-, h⟩ := x_ifn h
    cases h
    exact x_frO.a1 (x_frI (p := 65) rfl x_fr.rf)
set_option maxHeartbeats 4000000 in
set_option maxRecDepth 100000 in
theorem fr_Mo_copies_60_75_65 {σ : xS} {r : Unit × xS} (h : f_Mo_copies_60_75_65 σ = some r) : x_fr [(65, 99999)] σ r.2 := by
  unfold f_Mo_copies_60_75_65 at h
  try dsimp only at h
  obtain ⟨b3, b3h, h⟩ := x_bind h
  try dsimp only at h
  have b3f := x_itF (sA := (fun a => a.2)) (sB := (fun b => b.2)) (fun a o h => fr_Mo_copies_60_75_65_L2 h) _ _ _ b3h
  cases h
  exact (x_fr.trans x_fr.rf (x_fr.su b3f rfl))
set_option maxHeartbeats 4000000 in
set_option maxRecDepth 100000 in
theorem fr_Mo_copies_60_76_66_L2 {a : Int32 × xS} {o : (Int32 × xS) ⊕ (Int32 × xS)} (h : f_Mo_copies_60_76_66_L2 a = some o) : x_frO [(66, 99999)] (fun a => a.2) (fun b => b.2) a.2 o := by
  unfold f_Mo_copies_60_76_66_L2 at h
  try dsimp only at h
  refine x_iteC h (fun h => ?_) (fun h => ?_)
  · skip
    cases h
    exact x_frO.b x_fr.rf
  · skip
    obtain ⟨-, h⟩ := x_ifn h
    obtain ⟨-, h⟩ := x_ifn h
    cases h
    exact x_frO.a1 (x_frI (p := 66) rfl x_fr.rf)
set_option maxHeartbeats 4000000 in
set_option maxRecDepth 100000 in
theorem fr_Mo_copies_60_76_66 {σ : xS} {r : Unit × xS} (h : f_Mo_copies_60_76_66 σ = some r) : x_fr [(66, 99999)] σ r.2 := by
  unfold f_Mo_copies_60_76_66 at h
  try dsimp only at h
  obtain ⟨b3, b3h, h⟩ := x_bind h
  try dsimp only at h
  have b3f := x_itF (sA := (fun a => a.2)) (sB := (fun b => b.2)) (fun a o h => fr_Mo_copies_60_76_66_L2 h) _ _ _ b3h
  cases h
  exact (x_fr.trans x_fr.rf (x_fr.su b3f rfl))
set_option maxHeartbeats 4000000 in
set_option maxRecDepth 100000 in
theorem fr_Mo_scene_60_L115 {a : xS} {o : (xS) ⊕ (xS)} (h : f_Mo_scene_60_L115 a = some o) : x_frO [(60, 16), (60, 17), (60, 20), (60, 21), (60, 22), (60, 23), (60, 24), (60, 25), (60, 26), (60, 28), (60, 29), (60, 30), (60, 31), (60, 32), (60, 33), (60, 34), (60, 35), (60, 37), (60, 38), (60, 39), (60, 40), (60, 41), (60, 42), (69, 99999), (70, 99999), (71, 99999), (72, 99999), (73, 99999), (74, 99999), (75, 99999), (76, 99999), (77, 99999), (78, 99999)] (fun a => a) (fun b => b) a o := by
  unfold f_Mo_scene_60_L115 at h
  try dsimp only at h
  obtain ⟨q1, q1h, h⟩ := x_bind h
  try dsimp only at h
  have q1f := fr_Mo_isGood_60 q1h
  refine x_iteC h (fun h => ?_) (fun h => ?_)
  · skip
    cases h
    exact x_frO.b (x_fr.trans x_fr.rf (x_fr.su q1f rfl))
  · skip
    refine x_iteC h (fun h => ?_) (fun h => ?_)
    · skip
      cases h
      exact x_frO.b (x_fr.trans x_fr.rf (x_fr.su q1f rfl))
    · skip
      obtain ⟨q2, q2h, h⟩ := x_bind h
      try dsimp only at h
      have q2f := fr_Mo_line_60 q2h
      cases h
      exact x_frO.a (x_fr.trans (x_fr.trans x_fr.rf (x_fr.su q1f rfl)) (x_fr.su q2f rfl))
set_option maxHeartbeats 4000000 in
set_option maxRecDepth 100000 in
theorem fr_Mo_scene_60_L288 {a : Int32 × xS} {o : (Int32 × xS) ⊕ (Int32 × xS)} (h : f_Mo_scene_60_L288 a = some o) : x_frO [(79, 99999)] (fun a => a.2) (fun b => b.2) a.2 o := by
  unfold f_Mo_scene_60_L288 at h
  try dsimp only at h
  refine x_iteC h (fun h => ?_) (fun h => ?_)
  · skip
    cases h
    exact x_frO.b x_fr.rf
  · skip
    obtain ⟨-, h⟩ := x_ifn h
    obtain ⟨-, h⟩ := x_ifn h
    cases h
    exact x_frO.a1 (x_frI (p := 79) rfl x_fr.rf)
set_option maxHeartbeats 4000000 in
set_option maxRecDepth 100000 in
theorem fr_Mo_scene_60_L331 {a : Int32 × xS} {o : (Int32 × xS) ⊕ (Int32 × xS)} (h : f_Mo_scene_60_L331 a = some o) : x_frO [(79, 99999)] (fun a => a.2) (fun b => b.2) a.2 o := by
  unfold f_Mo_scene_60_L331 at h
  try dsimp only at h
  refine x_iteC h (fun h => ?_) (fun h => ?_)
  · skip
    cases h
    exact x_frO.b x_fr.rf
  · skip
    obtain ⟨-, h⟩ := x_ifn h
    obtain ⟨-, h⟩ := x_ifn h
    cases h
    exact x_frO.a1 (x_frI (p := 79) rfl x_fr.rf)
set_option maxHeartbeats 4000000 in
set_option maxRecDepth 100000 in
theorem fr_Mo_scene_60_J328 {y1 : Int32} {y2 : Int32} {σ : xS} {r : Int32 × xS} (h : f_Mo_scene_60_J328 y1 y2 σ = some r) : x_fr [(60, 56), (60, 68), (60, 74), (60, 76), (60, 78), (79, 99999)] σ r.2 := by
  unfold f_Mo_scene_60_J328 at h
  try dsimp only at h
  obtain ⟨-, h⟩ := x_ifn h
  obtain ⟨b8, b8h, h⟩ := x_bind h
  try dsimp only at h
  have b8f := x_itF (sA := (fun a => a.2)) (sB := (fun b => b.2)) (fun a o h => fr_Mo_scene_60_L331 h) _ _ _ b8h
  cases h
  exact (x_frI (p := 60) (k := 78) rfl (x_frI (p := 60) (k := 68) rfl (x_frI (p := 60) (k := 76) rfl (x_frI (p := 60) (k := 74) rfl (x_frI (p := 60) (k := 56) rfl (x_fr.trans (x_frI (p := 79) rfl x_fr.rf) (x_fr.su b8f rfl)))))))
set_option maxHeartbeats 4000000 in
set_option maxRecDepth 100000 in
theorem fr_Mo_scene_60_J136 {σ : xS} {r : Int32 × xS} (h : f_Mo_scene_60_J136 σ = some r) : x_fr [(60, 1), (60, 2), (60, 3), (60, 4), (60, 5), (60, 6), (60, 7), (60, 56), (60, 68), (60, 74), (60, 76), (60, 78), (61, 99999), (62, 99999), (63, 99999), (64, 99999), (65, 99999), (66, 99999), (68, 99999), (79, 99999)] σ r.2 := by
  unfold f_Mo_scene_60_J136 at h
  try dsimp only at h
  obtain ⟨q14, q14h, h⟩ := x_bind h
  try dsimp only at h
  have q14f := fr_Mo_isGood_60 q14h
  refine x_iteC h (fun h => ?_) (fun h => ?_)
  · skip
    cases h
    exact (x_frI (p := 68) (k := 0) rfl (x_fr.trans x_fr.rf (x_fr.su q14f rfl)))
  · skip
    obtain ⟨q22, q22h, h⟩ := x_bind h
    try dsimp only at h
    have q22f := fr_Mo_copies_60_69_61 q22h
    obtain ⟨q23, q23h, h⟩ := x_bind h
    try dsimp only at h
    have q23f := fr_Mo_copies_60_70_62 q23h
    obtain ⟨q24, q24h, h⟩ := x_bind h
    try dsimp only at h
    have q24f := fr_Mo_copies_60_71_63 q24h
    obtain ⟨q25, q25h, h⟩ := x_bind h
    try dsimp only at h
    have q25f := fr_Mo_copies_60_72_64 q25h
    obtain ⟨q26, q26h, h⟩ := x_bind h
    try dsimp only at h
    have q26f := fr_Mo_copies_60_75_65 q26h
    obtain ⟨q27, q27h, h⟩ := x_bind h
    try dsimp only at h
    have q27f := fr_Mo_copies_60_76_66 q27h
    obtain ⟨b28, b28h, h⟩ := x_bind h
    try dsimp only at h
    have b28f := x_itF (sA := (fun a => a.2)) (sB := (fun b => b.2)) (fun a o h => fr_Mo_scene_60_L288 h) _ _ _ b28h
    refine x_iteC h (fun h => ?_) (fun h => ?_)
    · skip
      exact x_fr.trans (x_fr.trans (x_fr.trans (x_fr.trans (x_fr.trans (x_fr.trans (x_fr.trans (x_fr.trans (x_frI (p := 60) (k := 7) rfl (x_frI (p := 60) (k := 6) rfl (x_frI (p := 60) (k := 5) rfl (x_frI (p := 60) (k := 4) rfl (x_frI (p := 60) (k := 3) rfl (x_frI (p := 60) (k := 2) rfl (x_frI (p := 60) (k := 1) rfl (x_fr.trans x_fr.rf (x_fr.su q14f rfl))))))))) (x_fr.su q22f rfl)) (x_fr.su q23f rfl)) (x_fr.su q24f rfl)) (x_fr.su q25f rfl)) (x_fr.su q26f rfl)) (x_fr.su q27f rfl)) (x_fr.su b28f rfl)) (x_fr.su (fr_Mo_scene_60_J328 h) rfl)
    · skip
      exact x_fr.trans (x_fr.trans (x_fr.trans (x_fr.trans (x_fr.trans (x_fr.trans (x_fr.trans (x_fr.trans (x_frI (p := 60) (k := 7) rfl (x_frI (p := 60) (k := 6) rfl (x_frI (p := 60) (k := 5) rfl (x_frI (p := 60) (k := 4) rfl (x_frI (p := 60) (k := 3) rfl (x_frI (p := 60) (k := 2) rfl (x_frI (p := 60) (k := 1) rfl (x_fr.trans x_fr.rf (x_fr.su q14f rfl))))))))) (x_fr.su q22f rfl)) (x_fr.su q23f rfl)) (x_fr.su q24f rfl)) (x_fr.su q25f rfl)) (x_fr.su q26f rfl)) (x_fr.su q27f rfl)) (x_fr.su b28f rfl)) (x_fr.su (fr_Mo_scene_60_J328 h) rfl)
set_option maxHeartbeats 4000000 in
set_option maxRecDepth 100000 in
theorem fr_Mo_scene_60_J107 {σ : xS} {r : Int32 × xS} (h : f_Mo_scene_60_J107 σ = some r) : x_fr [(60, 1), (60, 2), (60, 3), (60, 4), (60, 5), (60, 6), (60, 7), (60, 16), (60, 17), (60, 20), (60, 21), (60, 22), (60, 23), (60, 24), (60, 25), (60, 26), (60, 28), (60, 29), (60, 30), (60, 31), (60, 32), (60, 33), (60, 34), (60, 35), (60, 37), (60, 38), (60, 39), (60, 40), (60, 41), (60, 42), (60, 56), (60, 68), (60, 74), (60, 76), (60, 78), (61, 99999), (62, 99999), (63, 99999), (64, 99999), (65, 99999), (66, 99999), (68, 99999), (69, 99999), (70, 99999), (71, 99999), (72, 99999), (73, 99999), (74, 99999), (75, 99999), (76, 99999), (77, 99999), (78, 99999), (79, 99999)] σ r.2 := by
  unfold f_Mo_scene_60_J107 at h
  try dsimp only at h
  obtain ⟨b31, b31h, h⟩ := x_bind h
  try dsimp only at h
  have b31f := x_itF (sA := (fun a => a)) (sB := (fun b => b)) (fun a o h => fr_Mo_scene_60_L115 h) _ _ _ b31h
  exact x_fr.trans (x_fr.trans (x_frI (p := 60) (k := 35) rfl x_fr.rf) (x_fr.su b31f rfl)) (x_fr.su (fr_Mo_scene_60_J136 h) rfl)
set_option maxHeartbeats 4000000 in
set_option maxRecDepth 100000 in
theorem fr_Mo_scene_60_J23 {v1 : Int32} {y1 : Int32} {σ : xS} {r : Int32 × xS} (h : f_Mo_scene_60_J23 v1 y1 σ = some r) : x_fr [(60, 0), (60, 1), (60, 2), (60, 3), (60, 4), (60, 5), (60, 6), (60, 7), (60, 15), (60, 16), (60, 17), (60, 19), (60, 20), (60, 21), (60, 22), (60, 23), (60, 24), (60, 25), (60, 26), (60, 27), (60, 28), (60, 29), (60, 30), (60, 31), (60, 32), (60, 33), (60, 34), (60, 35), (60, 37), (60, 38), (60, 39), (60, 40), (60, 41), (60, 42), (60, 56), (60, 68), (60, 74), (60, 76), (60, 78), (61, 99999), (62, 99999), (63, 99999), (64, 99999), (65, 99999), (66, 99999), (68, 99999), (69, 99999), (70, 99999), (71, 99999), (72, 99999), (73, 99999), (74, 99999), (75, 99999), (76, 99999), (77, 99999), (78, 99999), (79, 99999)] σ r.2 := by
  unfold f_Mo_scene_60_J23 at h
  try dsimp only at h
  obtain ⟨q32, q32h, h⟩ := x_bind h
  try dsimp only at h
  have q32f := fr_Mo_right_60 q32h
  refine x_iteC h (fun h => ?_) (fun h => ?_)
  · skip
    cases h
    exact (x_fr.trans x_fr.rf (x_fr.su q32f rfl))
  · skip
    obtain ⟨q38, q38h, h⟩ := x_bind h
    try dsimp only at h
    have q38f := fr_Mo_forgetsText_60 q38h
    obtain ⟨q39, q39h, h⟩ := x_bind h
    try dsimp only at h
    have q39f := fr_Mo_goes_60 q39h
    obtain ⟨q41, q41h, h⟩ := x_bind h
    try dsimp only at h
    have q41f := fr_Mo_knownWord_60 q41h
    refine x_iteC h (fun h => ?_) (fun h => ?_)
    · skip
      obtain ⟨q42, q42h, h⟩ := x_bind h
      try dsimp only at h
      have q42f := fr_Mo_goes_60 q42h
      obtain ⟨q43, q43h, h⟩ := x_bind h
      try dsimp only at h
      have q43f := fr_Mo_number_60 q43h
      obtain ⟨q45, q45h, h⟩ := x_bind h
      try dsimp only at h
      have q45f := fr_Mo_isSign_60 q45h
      obtain ⟨q46, q46h, h⟩ := x_bind h
      try dsimp only at h
      have q46f := fr_Mo_need_60 q46h
      exact x_fr.trans (x_fr.trans (x_fr.trans (x_frI (p := 60) (k := 27) rfl (x_fr.trans (x_fr.trans (x_fr.trans (x_frI (p := 60) (k := 27) rfl (x_fr.trans (x_fr.trans (x_frI (p := 60) (k := 20) rfl (x_frI (p := 60) (k := 19) rfl (x_frI (p := 60) (k := 16) rfl (x_frI (p := 60) (k := 17) rfl (x_frI (p := 60) (k := 15) rfl (x_fr.trans x_fr.rf (x_fr.su q32f rfl))))))) (x_fr.su q38f rfl)) (x_fr.su q39f rfl))) (x_fr.su q41f rfl)) (x_fr.su q42f rfl)) (x_fr.su q43f rfl))) (x_fr.su q45f rfl)) (x_fr.su q46f rfl)) (x_fr.su (fr_Mo_scene_60_J107 h) rfl)
    · skip
      exact x_fr.trans (x_fr.trans (x_frI (p := 60) (k := 27) rfl (x_fr.trans (x_fr.trans (x_frI (p := 60) (k := 20) rfl (x_frI (p := 60) (k := 19) rfl (x_frI (p := 60) (k := 16) rfl (x_frI (p := 60) (k := 17) rfl (x_frI (p := 60) (k := 15) rfl (x_fr.trans x_fr.rf (x_fr.su q32f rfl))))))) (x_fr.su q38f rfl)) (x_fr.su q39f rfl))) (x_fr.su q41f rfl)) (x_fr.su (fr_Mo_scene_60_J107 h) rfl)
set_option maxHeartbeats 4000000 in
set_option maxRecDepth 100000 in
theorem fr_Mo_scene_60_J22 {v1 : Int32} {σ : xS} {r : Int32 × xS} (h : f_Mo_scene_60_J22 v1 σ = some r) : x_fr [(60, 0), (60, 1), (60, 2), (60, 3), (60, 4), (60, 5), (60, 6), (60, 7), (60, 15), (60, 16), (60, 17), (60, 19), (60, 20), (60, 21), (60, 22), (60, 23), (60, 24), (60, 25), (60, 26), (60, 27), (60, 28), (60, 29), (60, 30), (60, 31), (60, 32), (60, 33), (60, 34), (60, 35), (60, 37), (60, 38), (60, 39), (60, 40), (60, 41), (60, 42), (60, 56), (60, 68), (60, 74), (60, 76), (60, 78), (61, 99999), (62, 99999), (63, 99999), (64, 99999), (65, 99999), (66, 99999), (68, 99999), (69, 99999), (70, 99999), (71, 99999), (72, 99999), (73, 99999), (74, 99999), (75, 99999), (76, 99999), (77, 99999), (78, 99999), (79, 99999)] σ r.2 := by
  unfold f_Mo_scene_60_J22 at h
  try dsimp only at h
  exact x_fr.trans x_fr.rf (x_fr.su (fr_Mo_scene_60_J23 h) rfl)
