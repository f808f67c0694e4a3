def x_gd (σ τ : xS) : Prop := τ.1 60 16 = 0 → σ.1 60 16 = 0 ∧ τ.1 60 17 = σ.1 60 17
theorem x_gd.rf {σ : xS} : x_gd σ σ := fun h => ⟨h, rfl⟩
theorem x_gd.trans {σ τ υ : xS} (h : x_gd σ τ) (g : x_gd τ υ) : x_gd σ υ := fun e => ⟨(h (g e).1).1, (g e).2.trans (h (g e).1).2⟩
theorem x_gd.of {W : List (Nat × Nat)} {σ τ : xS} (f : x_fr W σ τ) (h : x_in W 60 16 = false) (h' : x_in W 60 17 = false) : x_gd σ τ := fun e => ⟨(f.ck 60 16 h).symm.trans e, f.ck 60 17 h'⟩
theorem x_gdI {σ τ : xS} {p k : Nat} {v : Int32} (h : ¬ (p = 60 ∧ (k = 16 ∨ k = 17))) (g : x_gd σ τ) : x_gd σ (x_pI τ p k v) := by
  refine x_gd.trans g (fun e => ?_)
  have h1 : (x_pI τ p k v).1 60 16 = τ.1 60 16 := if_neg (by omega)
  have h2 : (x_pI τ p k v).1 60 17 = τ.1 60 17 := if_neg (by omega)
  exact ⟨h1.symm.trans e, h2⟩
theorem x_gdL {σ τ : xS} {p k : Nat} {v : Int64} (g : x_gd σ τ) : x_gd σ (x_pL τ p k v) := g
def x_gdO {α β : Type} (sA : α → xS) (sB : β → xS) (σ : xS) (o : β ⊕ α) : Prop := match o with
  | .inl b => x_gd σ (sB b)
  | .inr a => x_gd σ (sA a)
theorem x_gdO.a {α β : Type} {sA : α → xS} {sB : β → xS} {σ : xS} {a : α} (h : x_gd σ (sA a)) : x_gdO sA sB σ (.inr a) := h
theorem x_gdO.a1 {A0 β : Type} {sB : β → xS} {σ s : xS} {x0 : A0} (h : x_gd σ s) : x_gdO (fun a : A0 × xS => a.2) sB σ (.inr (x0, s)) := h
theorem x_gdO.a2 {A0 A1 β : Type} {sB : β → xS} {σ s : xS} {x0 : A0} {x1 : A1} (h : x_gd σ s) : x_gdO (fun a : A0 × A1 × xS => a.2.2) sB σ (.inr (x0, x1, s)) := h
theorem x_gdO.a3 {A0 A1 A2 β : Type} {sB : β → xS} {σ s : xS} {x0 : A0} {x1 : A1} {x2 : A2} (h : x_gd σ s) : x_gdO (fun a : A0 × A1 × A2 × xS => a.2.2.2) sB σ (.inr (x0, x1, x2, s)) := h
theorem x_gdO.a4 {A0 A1 A2 A3 β : Type} {sB : β → xS} {σ s : xS} {x0 : A0} {x1 : A1} {x2 : A2} {x3 : A3} (h : x_gd σ s) : x_gdO (fun a : A0 × A1 × A2 × A3 × xS => a.2.2.2.2) sB σ (.inr (x0, x1, x2, x3, s)) := h
theorem x_gdO.b {α β : Type} {sA : α → xS} {sB : β → xS} {σ : xS} {b : β} (h : x_gd σ (sB b)) : x_gdO sA sB σ (.inl b) := h
theorem x_gdO.tr {α β : Type} {sA : α → xS} {sB : β → xS} {σ τ : xS} {o : β ⊕ α} (h : x_gd σ τ) (g : x_gdO sA sB τ o) : x_gdO sA sB σ o := by
  cases o with
  | inl b => exact x_gd.trans h g
  | inr a => exact x_gd.trans h g
theorem x_gdO.of {α β : Type} {W : List (Nat × Nat)} {sA : α → xS} {sB : β → xS} {σ : xS} {o : β ⊕ α} (g : x_frO W sA sB σ o) (h : x_in W 60 16 = false) (h' : x_in W 60 17 = false) : x_gdO sA sB σ o := by
  cases o with
  | inl b => exact x_gd.of (W := W) g h h'
  | inr a => exact x_gd.of (W := W) g h h'
theorem x_itG {α β : Type} {sA : α → xS} {sB : β → xS} {body : α → Option (β ⊕ α)} (hB : ∀ (a : α) (o : β ⊕ α), body a = some o → x_gdO sA sB (sA a) o) : ∀ (n : Nat) (a : α) (b : β), x_it body n a = some b → x_gd (sA a) (sB b)
  | 0, _, _, h => by cases h
  | n + 1, a, b, h => by
    unfold x_it at h
    split at h
    · cases h
    · rename_i b' hb
      cases h
      exact hB a _ hb
    · rename_i a' hb
      exact x_gd.trans (hB a _ hb) (x_itG hB n a' b h)
theorem gd_Mo_wrong_60 {v1 : Int32} {σ : xS} {r : Unit × xS} (h0 : ¬ v1 = 0) (h : f_Mo_wrong_60 v1 σ = some r) : x_gd σ r.2 := by
  unfold f_Mo_wrong_60 at h
  by_cases h1 : σ.1 60 16 = 0
  · rw [if_pos h1] at h
    cases h
    intro e
    have e2 : v1 = 0 := by rw [← e]; simp [x_pI]
    exact absurd e2 h0
  · rw [if_neg h1] at h
    cases h
    exact x_gd.rf
set_option maxHeartbeats 4000000 in
set_option maxRecDepth 100000 in
theorem gd_Mo_need_60 {v1 : Int32} {σ : xS} {r : Unit × xS} (h : f_Mo_need_60 v1 σ = some r) : x_gd σ r.2 := by
  unfold f_Mo_need_60 at h
  try dsimp only at h
  obtain ⟨q1, q1h, h⟩ := x_bind h
  try dsimp only at h
  have q1f := x_gd.of (fr_Mo_isGood_60 q1h) rfl rfl
  refine x_iteC h (fun h => ?_) (fun h => ?_)
  · skip
    cases h
    exact (x_gd.trans x_gd.rf q1f)
  · skip
    refine x_iteC h (fun h => ?_) (fun h => ?_)
    · skip
      obtain ⟨q2, q2h, h⟩ := x_bind h
      try dsimp only at h
      have q2f := gd_Mo_wrong_60 (show ¬ (1 : Int32) = 0 by decide) q2h
      cases h
      exact (x_gd.trans (x_gd.trans x_gd.rf q1f) q2f)
    · skip
      obtain ⟨q3, q3h, h⟩ := x_bind h
      try dsimp only at h
      have q3f := x_gd.of (fr_Mo_goes_60 q3h) rfl rfl
      cases h
      exact (x_gd.trans (x_gd.trans x_gd.rf q1f) q3f)
set_option maxHeartbeats 4000000 in
set_option maxRecDepth 100000 in
theorem gd_Mo_numberHere_60 {v1 : Int32} {v2 : Int32} {σ : xS} {r : Int32 × xS} (h : f_Mo_numberHere_60 v1 v2 σ = some r) : x_gd σ r.2 := by
  unfold f_Mo_numberHere_60 at h
  try dsimp only at h
  obtain ⟨q1, q1h, h⟩ := x_bind h
  try dsimp only at h
  have q1f := x_gd.of (fr_Mo_isGood_60 q1h) rfl rfl
  refine x_iteC h (fun h => ?_) (fun h => ?_)
  · skip
    cases h
    exact (x_gd.trans x_gd.rf q1f)
  · skip
    refine x_iteC h (fun h => ?_) (fun h => ?_)
    · skip
      refine x_iteC h (fun h => ?_) (fun h => ?_)
      · skip
        obtain ⟨q2, q2h, h⟩ := x_bind h
        try dsimp only at h
        have q2f := gd_Mo_wrong_60 (show ¬ (2 : Int32) = 0 by decide) q2h
        obtain ⟨q3, q3h, h⟩ := x_bind h
        try dsimp only at h
        have q3f := x_gd.of (fr_Mo_isGood_60 q3h) rfl rfl
        obtain ⟨-, h⟩ := x_ift h
        cases h
        exact (x_gd.trans (x_gd.trans (x_gd.trans x_gd.rf q1f) q2f) q3f)
      · skip
        refine x_iteC h (fun h => ?_) (fun h => ?_)
        · skip
          obtain ⟨q4, q4h, h⟩ := x_bind h
          try dsimp only at h
          have q4f := gd_Mo_wrong_60 (show ¬ (2 : Int32) = 0 by decide) q4h
          obtain ⟨q5, q5h, h⟩ := x_bind h
          try dsimp only at h
          have q5f := x_gd.of (fr_Mo_isGood_60 q5h) rfl rfl
          obtain ⟨-, h⟩ := x_ift h
          cases h
          exact (x_gd.trans (x_gd.trans (x_gd.trans x_gd.rf q1f) q4f) q5f)
        · skip
          refine x_iteC h (fun h => ?_) (fun h => ?_)
          · skip
            obtain ⟨q6, q6h, h⟩ := x_bind h
            try dsimp only at h
            have q6f := x_gd.of (fr_Mo_isGood_60 q6h) rfl rfl
            obtain ⟨-, h⟩ := x_ift h
            cases h
            exact (x_gd.trans (x_gd.trans x_gd.rf q1f) q6f)
          · skip
            obtain ⟨q7, q7h, h⟩ := x_bind h
            try dsimp only at h
            have q7f := gd_Mo_wrong_60 (show ¬ (2 : Int32) = 0 by decide) q7h
            obtain ⟨q8, q8h, h⟩ := x_bind h
            try dsimp only at h
            have q8f := x_gd.of (fr_Mo_isGood_60 q8h) rfl rfl
            obtain ⟨-, h⟩ := x_ift h
            cases h
            exact (x_gd.trans (x_gd.trans (x_gd.trans x_gd.rf q1f) q7f) q8f)
    · skip
      obtain ⟨q9, q9h, h⟩ := x_bind h
      try dsimp only at h
      have q9f := gd_Mo_wrong_60 (show ¬ (1 : Int32) = 0 by decide) q9h
      obtain ⟨q10, q10h, h⟩ := x_bind h
      try dsimp only at h
      have q10f := x_gd.of (fr_Mo_isGood_60 q10h) rfl rfl
      obtain ⟨-, h⟩ := x_ift h
      cases h
      exact (x_gd.trans (x_gd.trans (x_gd.trans x_gd.rf q1f) q9f) q10f)
set_option maxHeartbeats 4000000 in
set_option maxRecDepth 100000 in
theorem gd_Mo_number_60 {v1 : Int32} {v2 : Int32} {σ : xS} {r : Int32 × xS} (h : f_Mo_number_60 v1 v2 σ = some r) : x_gd σ r.2 := by
  unfold f_Mo_number_60 at h
  try dsimp only at h
  obtain ⟨q1, q1h, h⟩ := x_bind h
  try dsimp only at h
  have q1f := gd_Mo_numberHere_60 q1h
  refine x_iteC h (fun h => ?_) (fun h => ?_)
  · skip
    obtain ⟨q2, q2h, h⟩ := x_bind h
    try dsimp only at h
    have q2f := x_gd.of (fr_Mo_isGood_60 q2h) rfl rfl
    refine x_iteC h (fun h => ?_) (fun h => ?_)
    · skip
      cases h
      exact (x_gd.trans (x_gd.trans x_gd.rf q1f) q2f)
    · skip
      obtain ⟨q3, q3h, h⟩ := x_bind h
      try dsimp only at h
      have q3f := x_gd.of (fr_Mo_goes_60 q3h) rfl rfl
      cases h
      exact (x_gd.trans (x_gd.trans (x_gd.trans x_gd.rf q1f) q2f) q3f)
  · skip
    obtain ⟨q5, q5h, h⟩ := x_bind h
    try dsimp only at h
    have q5f := x_gd.of (fr_Mo_isGood_60 q5h) rfl rfl
    refine x_iteC h (fun h => ?_) (fun h => ?_)
    · skip
      cases h
      exact (x_gd.trans (x_gd.trans x_gd.rf q1f) q5f)
    · skip
      obtain ⟨q6, q6h, h⟩ := x_bind h
      try dsimp only at h
      have q6f := x_gd.of (fr_Mo_goes_60 q6h) rfl rfl
      cases h
      exact (x_gd.trans (x_gd.trans (x_gd.trans x_gd.rf q1f) q5f) q6f)
set_option maxHeartbeats 4000000 in
set_option maxRecDepth 100000 in
theorem gd_Mo_part_60_J74 {v1 : Int32} {σ : xS} {r : Unit × xS} (h : f_Mo_part_60_J74 v1 σ = some r) : x_gd σ r.2 := by
  unfold f_Mo_part_60_J74 at h
  try dsimp only at h
  obtain ⟨q5, q5h, h⟩ := x_bind h
  try dsimp only at h
  have q5f := gd_Mo_wrong_60 (show ¬ (3 : Int32) = 0 by decide) q5h
  exact x_gd.trans (x_gd.trans x_gd.rf q5f) (x_gd.of (fr_Mo_part_60_J79 h) rfl rfl)
set_option maxHeartbeats 4000000 in
set_option maxRecDepth 100000 in
theorem gd_Mo_part_60 {σ : xS} {r : Unit × xS} (h : f_Mo_part_60 σ = some r) : x_gd σ r.2 := by
  unfold f_Mo_part_60 at h
  try dsimp only at h
  obtain ⟨q10, q10h, h⟩ := x_bind h
  try dsimp only at h
  have q10f := x_gd.of (fr_Mo_isGood_60 q10h) rfl rfl
  refine x_iteC h (fun h => ?_) (fun h => ?_)
  · skip
    cases h
    exact (x_gd.trans x_gd.rf q10f)
  · skip
    refine x_iteC h (fun h => ?_) (fun h => ?_)
    · skip
      refine x_iteC h (fun h => ?_) (fun h => ?_)
      · skip
        exact x_gd.trans (x_gd.trans x_gd.rf q10f) (x_gd.of (fr_Mo_part_60_J29 h) rfl rfl)
      · skip
        obtain ⟨q16, q16h, h⟩ := x_bind h
        try dsimp only at h
        have q16f := gd_Mo_wrong_60 (show ¬ (2 : Int32) = 0 by decide) q16h
        exact x_gd.trans (x_gd.trans (x_gd.trans x_gd.rf q10f) q16f) (x_gd.of (fr_Mo_part_60_J29 h) rfl rfl)
    · skip
      refine x_iteC h (fun h => ?_) (fun h => ?_)
      · skip
        obtain ⟨q14, q14h, h⟩ := x_bind h
        try dsimp only at h
        have q14f := x_gd.of (fr_Mo_knownWord_60 q14h) rfl rfl
        refine x_iteC h (fun h => ?_) (fun h => ?_)
        · skip
          exact x_gd.trans (x_gd.trans (x_gd.trans x_gd.rf q10f) q14f) (gd_Mo_part_60_J74 h)
        · skip
          refine x_iteC h (fun h => ?_) (fun h => ?_)
          · skip
            exact x_gd.trans (x_gd.trans (x_gd.trans x_gd.rf q10f) q14f) (x_gd.of (fr_Mo_part_60_J79 h) rfl rfl)
          · skip
            exact x_gd.trans (x_gd.trans (x_gd.trans x_gd.rf q10f) q14f) (gd_Mo_part_60_J74 h)
      · skip
        obtain ⟨q11, q11h, h⟩ := x_bind h
        try dsimp only at h
        have q11f := gd_Mo_wrong_60 (show ¬ (1 : Int32) = 0 by decide) q11h
        obtain ⟨q12, q12h, h⟩ := x_bind h
        try dsimp only at h
        have q12f := x_gd.of (fr_Mo_isGood_60 q12h) rfl rfl
        refine x_iteC h (fun h => ?_) (fun h => ?_)
        · skip
          cases h
          exact (x_gd.trans (x_gd.trans (x_gd.trans x_gd.rf q10f) q11f) q12f)
        · skip
          obtain ⟨q13, q13h, h⟩ := x_bind h
          try dsimp only at h
          have q13f := x_gd.of (fr_Mo_goes_60 q13h) rfl rfl
          cases h
          exact (x_gd.trans (x_gd.trans (x_gd.trans (x_gd.trans x_gd.rf q10f) q11f) q12f) q13f)
set_option maxHeartbeats 4000000 in
set_option maxRecDepth 100000 in
theorem gd_Mo_deeper_60 {σ : xS} {r : Unit × xS} (h : f_Mo_deeper_60 σ = some r) : x_gd σ r.2 := by
  unfold f_Mo_deeper_60 at h
  try dsimp only at h
  refine x_iteC h (fun h => ?_) (fun h => ?_)
  · skip
    refine x_iteC h (fun h => ?_) (fun h => ?_)
    · skip
      obtain ⟨q1, q1h, h⟩ := x_bind h
      try dsimp only at h
      have q1f := gd_Mo_wrong_60 (show ¬ (2 : Int32) = 0 by decide) q1h
      cases h
      exact (x_gd.trans x_gd.rf q1f)
    · skip
      refine x_iteC h (fun h => ?_) (fun h => ?_)
      · skip
        obtain ⟨q2, q2h, h⟩ := x_bind h
        try dsimp only at h
        have q2f := gd_Mo_wrong_60 (show ¬ (2 : Int32) = 0 by decide) q2h
        cases h
        exact (x_gd.trans x_gd.rf q2f)
      · skip
        obtain ⟨q3, q3h, h⟩ := x_bind h
        try dsimp only at h
        have q3f := x_gd.of (fr_Mo_isSign_60 q3h) rfl rfl
        refine x_iteC h (fun h => ?_) (fun h => ?_)
        · skip
          obtain ⟨q4, q4h, h⟩ := x_bind h
          try dsimp only at h
          have q4f := gd_Mo_wrong_60 (show ¬ (1 : Int32) = 0 by decide) q4h
          cases h
          exact (x_gd.trans (x_gd.trans x_gd.rf q3f) q4f)
        · skip
          obtain ⟨q5, q5h, h⟩ := x_bind h
          try dsimp only at h
          have q5f := gd_Mo_wrong_60 (show ¬ (2 : Int32) = 0 by decide) q5h
          cases h
          exact (x_gd.trans (x_gd.trans x_gd.rf q3f) q5f)
  · skip
    obtain ⟨-, h⟩ := x_ifn h
    cases h
    exact (x_gdI (p := 78) (by omega) (x_gdI (p := 60) (k := 42) (by omega) x_gd.rf))
set_option maxHeartbeats 4000000 in
set_option maxRecDepth 100000 in
theorem gd_Mo_operand_60_L18 {v2 : Int32} {a : Int32 × xS} {o : (Int32 × xS) ⊕ (Int32 × xS)} (h : f_Mo_operand_60_L18 v2 a = some o) : x_gdO (fun a => a.2) (fun b => b.2) a.2 o := by
  unfold f_Mo_operand_60_L18 at h
  try dsimp only at h
  obtain ⟨q5, q5h, h⟩ := x_bind h
  try dsimp only at h
  have q5f := x_gd.of (fr_Mo_isGood_60 q5h) rfl rfl
  refine x_iteC h (fun h => ?_) (fun h => ?_)
  · skip
    cases h
    exact x_gdO.b (x_gd.trans x_gd.rf q5f)
  · skip
    refine x_iteC h (fun h => ?_) (fun h => ?_)
    · skip
      cases h
      exact x_gdO.b (x_gd.trans x_gd.rf q5f)
    · skip
      obtain ⟨q6, q6h, h⟩ := x_bind h
      try dsimp only at h
      have q6f := x_gd.of (fr_Mo_knownWord_60 q6h) rfl rfl
      refine x_iteC h (fun h => ?_) (fun h => ?_)
      · skip
        refine x_iteC h (fun h => ?_) (fun h => ?_)
        · skip
          obtain ⟨q7, q7h, h⟩ := x_bind h
          try dsimp only at h
          have q7f := gd_Mo_wrong_60 (show ¬ (2 : Int32) = 0 by decide) q7h
          exact x_gdO.tr (x_gd.trans (x_gd.trans (x_gd.trans x_gd.rf q5f) q6f) q7f) (x_gdO.of (fr_Mo_operand_60_J50 h) rfl rfl)
        · skip
          exact x_gdO.tr (x_gd.trans (x_gd.trans x_gd.rf q5f) q6f) (x_gdO.of (fr_Mo_operand_60_J50 h) rfl rfl)
      · skip
        cases h
        exact x_gdO.b (x_gd.trans (x_gd.trans x_gd.rf q5f) q6f)
set_option maxHeartbeats 4000000 in
set_option maxRecDepth 100000 in
theorem gd_Mo_operand_60_J96 {v2 : Int32} {y0 : Int32} {σ : xS} {o : (Int32 × Int32 × xS) ⊕ (Int32 × Int32 × xS)} (h : f_Mo_operand_60_J96 v2 y0 σ = some o) : x_gdO (fun a => a.2.2) (fun b => b.2.2) σ o := by
  unfold f_Mo_operand_60_J96 at h
  try dsimp only at h
  refine x_iteC h (fun h => ?_) (fun h => ?_)
  · skip
    cases h
    exact x_gdO.a2 x_gd.rf
  · skip
    obtain ⟨q8, q8h, h⟩ := x_bind h
    try dsimp only at h
    have q8f := x_gd.of (fr_Mo_waitsFor_60 q8h) rfl rfl
    obtain ⟨q9, q9h, h⟩ := x_bind h
    try dsimp only at h
    have q9f := x_gd.of (fr_Mo_goes_60 q9h) rfl rfl
    obtain ⟨q10, q10h, h⟩ := x_bind h
    try dsimp only at h
    have q10f := gd_Mo_deeper_60 q10h
    cases h
    exact x_gdO.a2 (x_gd.trans (x_gd.trans (x_gd.trans x_gd.rf q8f) q9f) q10f)
set_option maxHeartbeats 4000000 in
set_option maxRecDepth 100000 in
theorem gd_Mo_operand_60_J95 {v2 : Int32} {σ : xS} {o : (Int32 × Int32 × xS) ⊕ (Int32 × Int32 × xS)} (h : f_Mo_operand_60_J95 v2 σ = some o) : x_gdO (fun a => a.2.2) (fun b => b.2.2) σ o := by
  unfold f_Mo_operand_60_J95 at h
  try dsimp only at h
  exact x_gdO.tr x_gd.rf (gd_Mo_operand_60_J96 h)
set_option maxHeartbeats 4000000 in
set_option maxRecDepth 100000 in
theorem gd_Mo_operand_60_J75 {v2 : Int32} {σ : xS} {o : (Int32 × Int32 × xS) ⊕ (Int32 × Int32 × xS)} (h : f_Mo_operand_60_J75 v2 σ = some o) : x_gdO (fun a => a.2.2) (fun b => b.2.2) σ o := by
  unfold f_Mo_operand_60_J75 at h
  try dsimp only at h
  obtain ⟨q11, q11h, h⟩ := x_bind h
  try dsimp only at h
  have q11f := x_gd.of (fr_Mo_isGood_60 q11h) rfl rfl
  refine x_iteC h (fun h => ?_) (fun h => ?_)
  · skip
    exact x_gdO.tr (x_gd.trans x_gd.rf q11f) (gd_Mo_operand_60_J95 h)
  · skip
    obtain ⟨q12, q12h, h⟩ := x_bind h
    try dsimp only at h
    have q12f := x_gd.of (fr_Mo_isSign_60 q12h) rfl rfl
    refine x_iteC h (fun h => ?_) (fun h => ?_)
    · skip
      exact x_gdO.tr (x_gd.trans (x_gd.trans x_gd.rf q11f) q12f) (gd_Mo_operand_60_J95 h)
    · skip
      exact x_gdO.tr (x_gd.trans (x_gd.trans x_gd.rf q11f) q12f) (gd_Mo_operand_60_J96 h)
set_option maxHeartbeats 4000000 in
set_option maxRecDepth 100000 in
theorem gd_Mo_operand_60_L4 {a : Int32 × Int32 × xS} {o : (Int32 × Int32 × xS) ⊕ (Int32 × Int32 × xS)} (h : f_Mo_operand_60_L4 a = some o) : x_gdO (fun a => a.2.2) (fun b => b.2.2) a.2.2 o := by
  unfold f_Mo_operand_60_L4 at h
  try dsimp only at h
  refine x_iteC h (fun h => ?_) (fun h => ?_)
  · skip
    cases h
    exact x_gdO.b x_gd.rf
  · skip
    obtain ⟨q13, q13h, h⟩ := x_bind h
    try dsimp only at h
    have q13f := x_gd.of (fr_Mo_isGood_60 q13h) rfl rfl
    refine x_iteC h (fun h => ?_) (fun h => ?_)
    · skip
      cases h
      exact x_gdO.b (x_gd.trans x_gd.rf q13f)
    · skip
      obtain ⟨b14, b14h, h⟩ := x_bind h
      try dsimp only at h
      have b14f := x_itG (sA := (fun a => a.2)) (sB := (fun b => b.2)) (fun a o h => gd_Mo_operand_60_L18 h) _ _ _ b14h
      exact x_gdO.tr (x_gd.trans (x_gd.trans x_gd.rf q13f) b14f) (gd_Mo_operand_60_J75 h)
set_option maxHeartbeats 4000000 in
set_option maxRecDepth 100000 in
theorem gd_Mo_operand_60 {v1 : Int32} {σ : xS} {r : Unit × xS} (h : f_Mo_operand_60 v1 σ = some r) : x_gd σ r.2 := by
  unfold f_Mo_operand_60 at h
  try dsimp only at h
  obtain ⟨b15, b15h, h⟩ := x_bind h
  try dsimp only at h
  have b15f := x_itG (sA := (fun a => a.2.2)) (sB := (fun b => b.2.2)) (fun a o h => gd_Mo_operand_60_L4 h) _ _ _ b15h
  obtain ⟨q16, q16h, h⟩ := x_bind h
  try dsimp only at h
  have q16f := gd_Mo_part_60 q16h
  cases h
  exact (x_gd.trans (x_gd.trans x_gd.rf b15f) q16f)
set_option maxHeartbeats 4000000 in
set_option maxRecDepth 100000 in
theorem gd_Mo_expression_60_J274 {v3 : Int32} {σ : xS} {o : (Int32 × xS) ⊕ (Int32 × xS)} (h : f_Mo_expression_60_J274 v3 σ = some o) : x_gdO (fun a => a.2) (fun b => b.2) σ o := by
  unfold f_Mo_expression_60_J274 at h
  try dsimp only at h
  obtain ⟨q1, q1h, h⟩ := x_bind h
  try dsimp only at h
  have q1f := x_gd.of (fr_Mo_drops_60 q1h) rfl rfl
  obtain ⟨q2, q2h, h⟩ := x_bind h
  try dsimp only at h
  have q2f := x_gd.of (fr_Mo_isSign_60 q2h) rfl rfl
  refine x_iteC h (fun h => ?_) (fun h => ?_)
  · skip
    obtain ⟨q3, q3h, h⟩ := x_bind h
    try dsimp only at h
    have q3f := x_gd.of (fr_Mo_waitsFor_60 q3h) rfl rfl
    obtain ⟨q4, q4h, h⟩ := x_bind h
    try dsimp only at h
    have q4f := x_gd.of (fr_Mo_goes_60 q4h) rfl rfl
    obtain ⟨q5, q5h, h⟩ := x_bind h
    try dsimp only at h
    have q5f := gd_Mo_operand_60 q5h
    cases h
    exact x_gdO.a1 (x_gd.trans (x_gd.trans (x_gd.trans (x_gd.trans (x_gd.trans x_gd.rf q1f) q2f) q3f) q4f) q5f)
  · skip
    obtain ⟨q6, q6h, h⟩ := x_bind h
    try dsimp only at h
    have q6f := x_gd.of (fr_Mo_waitsFor_60 q6h) rfl rfl
    obtain ⟨q7, q7h, h⟩ := x_bind h
    try dsimp only at h
    have q7f := x_gd.of (fr_Mo_goes_60 q7h) rfl rfl
    obtain ⟨q8, q8h, h⟩ := x_bind h
    try dsimp only at h
    have q8f := gd_Mo_operand_60 q8h
    cases h
    exact x_gdO.a1 (x_gd.trans (x_gd.trans (x_gd.trans (x_gd.trans (x_gd.trans x_gd.rf q1f) q2f) q6f) q7f) q8f)
set_option maxHeartbeats 4000000 in
set_option maxRecDepth 100000 in
theorem gd_Mo_expression_60_J219 {v3 : Int32} {σ : xS} {o : (Int32 × xS) ⊕ (Int32 × xS)} (h : f_Mo_expression_60_J219 v3 σ = some o) : x_gdO (fun a => a.2) (fun b => b.2) σ o := by
  unfold f_Mo_expression_60_J219 at h
  try dsimp only at h
  obtain ⟨q9, q9h, h⟩ := x_bind h
  try dsimp only at h
  have q9f := x_gd.of (fr_Mo_drops_60 q9h) rfl rfl
  obtain ⟨q10, q10h, h⟩ := x_bind h
  try dsimp only at h
  have q10f := x_gd.of (fr_Mo_isSign_60 q10h) rfl rfl
  refine x_iteC h (fun h => ?_) (fun h => ?_)
  · skip
    obtain ⟨q11, q11h, h⟩ := x_bind h
    try dsimp only at h
    have q11f := x_gd.of (fr_Mo_waitsFor_60 q11h) rfl rfl
    obtain ⟨q12, q12h, h⟩ := x_bind h
    try dsimp only at h
    have q12f := x_gd.of (fr_Mo_goes_60 q12h) rfl rfl
    obtain ⟨q13, q13h, h⟩ := x_bind h
    try dsimp only at h
    have q13f := gd_Mo_operand_60 q13h
    cases h
    exact x_gdO.a1 (x_gd.trans (x_gd.trans (x_gd.trans (x_gd.trans (x_gd.trans x_gd.rf q9f) q10f) q11f) q12f) q13f)
  · skip
    obtain ⟨q14, q14h, h⟩ := x_bind h
    try dsimp only at h
    have q14f := x_gd.of (fr_Mo_waitsFor_60 q14h) rfl rfl
    obtain ⟨q15, q15h, h⟩ := x_bind h
    try dsimp only at h
    have q15f := x_gd.of (fr_Mo_goes_60 q15h) rfl rfl
    obtain ⟨q16, q16h, h⟩ := x_bind h
    try dsimp only at h
    have q16f := gd_Mo_operand_60 q16h
    cases h
    exact x_gdO.a1 (x_gd.trans (x_gd.trans (x_gd.trans (x_gd.trans (x_gd.trans x_gd.rf q9f) q10f) q14f) q15f) q16f)
set_option maxHeartbeats 4000000 in
set_option maxRecDepth 100000 in
theorem gd_Mo_expression_60_J201 {v3 : Int32} {σ : xS} {o : (Int32 × xS) ⊕ (Int32 × xS)} (h : f_Mo_expression_60_J201 v3 σ = some o) : x_gdO (fun a => a.2) (fun b => b.2) σ o := by
  unfold f_Mo_expression_60_J201 at h
  try dsimp only at h
  obtain ⟨q17, q17h, h⟩ := x_bind h
  try dsimp only at h
  have q17f := x_gd.of (fr_Mo_isSign_60 q17h) rfl rfl
  refine x_iteC h (fun h => ?_) (fun h => ?_)
  · skip
    obtain ⟨q18, q18h, h⟩ := x_bind h
    try dsimp only at h
    have q18f := x_gd.of (fr_Mo_isSign_60 q18h) rfl rfl
    refine x_iteC h (fun h => ?_) (fun h => ?_)
    · skip
      obtain ⟨q19, q19h, h⟩ := x_bind h
      try dsimp only at h
      have q19f := x_gd.of (fr_Mo_isSign_60 q19h) rfl rfl
      refine x_iteC h (fun h => ?_) (fun h => ?_)
      · skip
        obtain ⟨q20, q20h, h⟩ := x_bind h
        try dsimp only at h
        have q20f := x_gd.of (fr_Mo_isSign_60 q20h) rfl rfl
        refine x_iteC h (fun h => ?_) (fun h => ?_)
        · skip
          obtain ⟨q21, q21h, h⟩ := x_bind h
          try dsimp only at h
          have q21f := x_gd.of (fr_Mo_isSign_60 q21h) rfl rfl
          refine x_iteC h (fun h => ?_) (fun h => ?_)
          · skip
            cases h
            exact x_gdO.a1 (x_gd.trans (x_gd.trans (x_gd.trans (x_gd.trans (x_gd.trans x_gd.rf q17f) q18f) q19f) q20f) q21f)
          · skip
            obtain ⟨q22, q22h, h⟩ := x_bind h
            try dsimp only at h
            have q22f := x_gd.of (fr_Mo_isOpened_60 q22h) rfl rfl
            refine x_iteC h (fun h => ?_) (fun h => ?_)
            · skip
              cases h
              exact x_gdO.a1 (x_gd.trans (x_gd.trans (x_gd.trans (x_gd.trans (x_gd.trans (x_gd.trans x_gd.rf q17f) q18f) q19f) q20f) q21f) q22f)
            · skip
              obtain ⟨q23, q23h, h⟩ := x_bind h
              try dsimp only at h
              have q23f := x_gd.of (fr_Mo_closes_60 q23h) rfl rfl
              cases h
              exact x_gdO.a1 (x_gd.trans (x_gd.trans (x_gd.trans (x_gd.trans (x_gd.trans (x_gd.trans (x_gd.trans x_gd.rf q17f) q18f) q19f) q20f) q21f) q22f) q23f)
        · skip
          exact x_gdO.tr (x_gd.trans (x_gd.trans (x_gd.trans (x_gd.trans x_gd.rf q17f) q18f) q19f) q20f) (gd_Mo_expression_60_J274 h)
      · skip
        exact x_gdO.tr (x_gd.trans (x_gd.trans (x_gd.trans x_gd.rf q17f) q18f) q19f) (gd_Mo_expression_60_J274 h)
    · skip
      exact x_gdO.tr (x_gd.trans (x_gd.trans x_gd.rf q17f) q18f) (gd_Mo_expression_60_J219 h)
  · skip
    exact x_gdO.tr (x_gd.trans x_gd.rf q17f) (gd_Mo_expression_60_J219 h)
set_option maxHeartbeats 4000000 in
set_option maxRecDepth 100000 in
theorem gd_Mo_expression_60_J176 {v3 : Int32} {y1 : Int32} {σ : xS} {o : (Int32 × xS) ⊕ (Int32 × xS)} (h : f_Mo_expression_60_J176 v3 y1 σ = some o) : x_gdO (fun a => a.2) (fun b => b.2) σ o := by
  unfold f_Mo_expression_60_J176 at h
  try dsimp only at h
  obtain ⟨q24, q24h, h⟩ := x_bind h
  try dsimp only at h
  have q24f := x_gd.of (fr_Mo_waitsFor_60 q24h) rfl rfl
  obtain ⟨-, h⟩ := x_ifn h
  obtain ⟨q26, q26h, h⟩ := x_bind h
  try dsimp only at h
  have q26f := x_gd.of (fr_Mo_goes_60 q26h) rfl rfl
  obtain ⟨q27, q27h, h⟩ := x_bind h
  try dsimp only at h
  have q27f := gd_Mo_operand_60 q27h
  cases h
  exact x_gdO.a1 (x_gd.trans (x_gd.trans (x_gdI (p := 78) (by omega) (x_gd.trans x_gd.rf q24f)) q26f) q27f)
set_option maxHeartbeats 4000000 in
set_option maxRecDepth 100000 in
theorem gd_Mo_expression_60_J142 {v3 : Int32} {σ : xS} {o : (Int32 × xS) ⊕ (Int32 × xS)} (h : f_Mo_expression_60_J142 v3 σ = some o) : x_gdO (fun a => a.2) (fun b => b.2) σ o := by
  unfold f_Mo_expression_60_J142 at h
  try dsimp only at h
  obtain ⟨-, h⟩ := x_ifn h
  refine x_iteC h (fun h => ?_) (fun h => ?_)
  · skip
    obtain ⟨q28, q28h, h⟩ := x_bind h
    try dsimp only at h
    have q28f := x_gd.of (fr_Mo_drops_60 q28h) rfl rfl
    obtain ⟨q29, q29h, h⟩ := x_bind h
    try dsimp only at h
    have q29f := x_gd.of (fr_Mo_isSign_60 q29h) rfl rfl
    refine x_iteC h (fun h => ?_) (fun h => ?_)
    · skip
      exact x_gdO.tr (x_gd.trans (x_gd.trans x_gd.rf q28f) q29f) (gd_Mo_expression_60_J176 h)
    · skip
      exact x_gdO.tr (x_gd.trans (x_gd.trans x_gd.rf q28f) q29f) (gd_Mo_expression_60_J176 h)
  · skip
    exact x_gdO.tr x_gd.rf (gd_Mo_expression_60_J201 h)
set_option maxHeartbeats 4000000 in
set_option maxRecDepth 100000 in
theorem gd_Mo_expression_60_J99 {v3 : Int32} {y1 : Int32} {σ : xS} {o : (Int32 × xS) ⊕ (Int32 × xS)} (h : f_Mo_expression_60_J99 v3 y1 σ = some o) : x_gdO (fun a => a.2) (fun b => b.2) σ o := by
  unfold f_Mo_expression_60_J99 at h
  try dsimp only at h
  obtain ⟨q30, q30h, h⟩ := x_bind h
  try dsimp only at h
  have q30f := x_gd.of (fr_Mo_waitsFor_60 q30h) rfl rfl
  obtain ⟨-, h⟩ := x_ifn h
  obtain ⟨q32, q32h, h⟩ := x_bind h
  try dsimp only at h
  have q32f := x_gd.of (fr_Mo_goes_60 q32h) rfl rfl
  obtain ⟨q33, q33h, h⟩ := x_bind h
  try dsimp only at h
  have q33f := gd_Mo_operand_60 q33h
  cases h
  exact x_gdO.a1 (x_gd.trans (x_gd.trans (x_gdI (p := 78) (by omega) (x_gd.trans x_gd.rf q30f)) q32f) q33f)
set_option maxHeartbeats 4000000 in
set_option maxRecDepth 100000 in
theorem gd_Mo_expression_60_J83 {v3 : Int32} {v4 : Int32} {y1 : Int32} {σ : xS} {o : (Int32 × xS) ⊕ (Int32 × xS)} (h : f_Mo_expression_60_J83 v3 v4 y1 σ = some o) : x_gdO (fun a => a.2) (fun b => b.2) σ o := by
  unfold f_Mo_expression_60_J83 at h
  try dsimp only at h
  obtain ⟨q34, q34h, h⟩ := x_bind h
  try dsimp only at h
  have q34f := x_gd.of (fr_Mo_drops_60 q34h) rfl rfl
  refine x_iteC h (fun h => ?_) (fun h => ?_)
  · skip
    exact x_gdO.tr (x_gd.trans x_gd.rf q34f) (gd_Mo_expression_60_J99 h)
  · skip
    exact x_gdO.tr (x_gd.trans x_gd.rf q34f) (gd_Mo_expression_60_J99 h)
set_option maxHeartbeats 4000000 in
set_option maxRecDepth 100000 in
theorem gd_Mo_expression_60_J70 {v3 : Int32} {v4 : Int32} {σ : xS} {o : (Int32 × xS) ⊕ (Int32 × xS)} (h : f_Mo_expression_60_J70 v3 v4 σ = some o) : x_gdO (fun a => a.2) (fun b => b.2) σ o := by
  unfold f_Mo_expression_60_J70 at h
  try dsimp only at h
  refine x_iteC h (fun h => ?_) (fun h => ?_)
  · skip
    exact x_gdO.tr x_gd.rf (gd_Mo_expression_60_J83 h)
  · skip
    exact x_gdO.tr x_gd.rf (gd_Mo_expression_60_J83 h)
set_option maxHeartbeats 4000000 in
set_option maxRecDepth 100000 in
theorem gd_Mo_expression_60_L39 {a : Int32 × xS} {o : (Int32 × xS) ⊕ (Int32 × xS)} (h : f_Mo_expression_60_L39 a = some o) : x_gdO (fun a => a.2) (fun b => b.2) a.2 o := by
  unfold f_Mo_expression_60_L39 at h
  try dsimp only at h
  refine x_iteC h (fun h => ?_) (fun h => ?_)
  · skip
    cases h
    exact x_gdO.b x_gd.rf
  · skip
    obtain ⟨q35, q35h, h⟩ := x_bind h
    try dsimp only at h
    have q35f := x_gd.of (fr_Mo_isGood_60 q35h) rfl rfl
    refine x_iteC h (fun h => ?_) (fun h => ?_)
    · skip
      cases h
      exact x_gdO.b (x_gd.trans x_gd.rf q35f)
    · skip
      obtain ⟨q36, q36h, h⟩ := x_bind h
      try dsimp only at h
      have q36f := x_gd.of (fr_Mo_knownWord_60 q36h) rfl rfl
      refine x_iteC h (fun h => ?_) (fun h => ?_)
      · skip
        exact x_gdO.tr (x_gd.trans (x_gd.trans x_gd.rf q35f) q36f) (gd_Mo_expression_60_J70 h)
      · skip
        refine x_iteC h (fun h => ?_) (fun h => ?_)
        · skip
          exact x_gdO.tr (x_gd.trans (x_gd.trans x_gd.rf q35f) q36f) (gd_Mo_expression_60_J70 h)
        · skip
          obtain ⟨q38, q38h, h⟩ := x_bind h
          try dsimp only at h
          have q38f := x_gd.of (fr_Mo_isSign_60 q38h) rfl rfl
          refine x_iteC h (fun h => ?_) (fun h => ?_)
          · skip
            obtain ⟨q39, q39h, h⟩ := x_bind h
            try dsimp only at h
            have q39f := x_gd.of (fr_Mo_isSign_60 q39h) rfl rfl
            refine x_iteC h (fun h => ?_) (fun h => ?_)
            · skip
              exact x_gdO.tr (x_gd.trans (x_gd.trans (x_gd.trans (x_gd.trans x_gd.rf q35f) q36f) q38f) q39f) (gd_Mo_expression_60_J201 h)
            · skip
              exact x_gdO.tr (x_gd.trans (x_gd.trans (x_gd.trans (x_gd.trans x_gd.rf q35f) q36f) q38f) q39f) (gd_Mo_expression_60_J142 h)
          · skip
            exact x_gdO.tr (x_gd.trans (x_gd.trans (x_gd.trans x_gd.rf q35f) q36f) q38f) (gd_Mo_expression_60_J142 h)
set_option maxHeartbeats 4000000 in
set_option maxRecDepth 100000 in
theorem gd_Mo_expression_60_J340 {σ : xS} {r : Unit × xS} (h : f_Mo_expression_60_J340 σ = some r) : x_gd σ r.2 := by
  unfold f_Mo_expression_60_J340 at h
  try dsimp only at h
  obtain ⟨q40, q40h, h⟩ := x_bind h
  try dsimp only at h
  have q40f := x_gd.of (fr_Mo_isGood_60 q40h) rfl rfl
  refine x_iteC h (fun h => ?_) (fun h => ?_)
  · skip
    obtain ⟨q41, q41h, h⟩ := x_bind h
    try dsimp only at h
    have q41f := x_gd.of (fr_Mo_drops_60 q41h) rfl rfl
    obtain ⟨q42, q42h, h⟩ := x_bind h
    try dsimp only at h
    have q42f := x_gd.of (fr_Mo_puts_60 q42h) rfl rfl
    cases h
    exact (x_gd.trans (x_gd.trans (x_gd.trans x_gd.rf q40f) q41f) q42f)
  · skip
    refine x_iteC h (fun h => ?_) (fun h => ?_)
    · skip
      obtain ⟨q43, q43h, h⟩ := x_bind h
      try dsimp only at h
      have q43f := x_gd.of (fr_Mo_drops_60 q43h) rfl rfl
      obtain ⟨q44, q44h, h⟩ := x_bind h
      try dsimp only at h
      have q44f := x_gd.of (fr_Mo_puts_60 q44h) rfl rfl
      cases h
      exact (x_gd.trans (x_gd.trans (x_gd.trans x_gd.rf q40f) q43f) q44f)
    · skip
      obtain ⟨q45, q45h, h⟩ := x_bind h
      try dsimp only at h
      have q45f := gd_Mo_wrong_60 (show ¬ (1 : Int32) = 0 by decide) q45h
      obtain ⟨q46, q46h, h⟩ := x_bind h
      try dsimp only at h
      have q46f := x_gd.of (fr_Mo_drops_60 q46h) rfl rfl
      obtain ⟨q47, q47h, h⟩ := x_bind h
      try dsimp only at h
      have q47f := x_gd.of (fr_Mo_puts_60 q47h) rfl rfl
      cases h
      exact (x_gd.trans (x_gd.trans (x_gd.trans (x_gd.trans x_gd.rf q40f) q45f) q46f) q47f)
set_option maxHeartbeats 4000000 in
set_option maxRecDepth 100000 in
theorem gd_Mo_expression_60 {v1 : Int32} {v2 : Int32} {σ : xS} {r : Unit × xS} (h : f_Mo_expression_60 v1 v2 σ = some r) : x_gd σ r.2 := by
  unfold f_Mo_expression_60 at h
  try dsimp only at h
  obtain ⟨q48, q48h, h⟩ := x_bind h
  try dsimp only at h
  have q48f := x_gd.of (fr_Mo_isGood_60 q48h) rfl rfl
  refine x_iteC h (fun h => ?_) (fun h => ?_)
  · skip
    cases h
    exact (x_gd.trans x_gd.rf q48f)
  · skip
    obtain ⟨q53, q53h, h⟩ := x_bind h
    try dsimp only at h
    have q53f := gd_Mo_deeper_60 q53h
    obtain ⟨q54, q54h, h⟩ := x_bind h
    try dsimp only at h
    have q54f := gd_Mo_operand_60 q54h
    obtain ⟨b55, b55h, h⟩ := x_bind h
    try dsimp only at h
    have b55f := x_itG (sA := (fun a => a.2)) (sB := (fun b => b.2)) (fun a o h => gd_Mo_expression_60_L39 h) _ _ _ b55h
    exact x_gd.trans (x_gd.trans (x_gd.trans (x_gd.trans (x_gdI (p := 60) (k := 42) (by omega) (x_gdI (p := 60) (k := 41) (by omega) (x_gdI (p := 60) (k := 39) (by omega) (x_gdI (p := 60) (k := 38) (by omega) (x_gd.trans x_gd.rf q48f))))) q53f) q54f) b55f) (gd_Mo_expression_60_J340 h)
set_option maxHeartbeats 4000000 in
set_option maxRecDepth 100000 in
theorem gd_Mo_once_60 {v1 : Int32} {σ : xS} {r : Int32 × xS} (h : f_Mo_once_60 v1 σ = some r) : x_gd σ r.2 := by
  unfold f_Mo_once_60 at h
  try dsimp only at h
  refine x_iteC h (fun h => ?_) (fun h => ?_)
  · skip
    obtain ⟨q6, q6h, h⟩ := x_bind h
    try dsimp only at h
    have q6f := gd_Mo_wrong_60 (show ¬ (5 : Int32) = 0 by decide) q6h
    exact x_gd.trans (x_gd.trans x_gd.rf q6f) (x_gd.of (fr_Mo_once_60_J17 h) rfl rfl)
  · skip
    exact x_gd.trans x_gd.rf (x_gd.of (fr_Mo_once_60_J17 h) rfl rfl)
set_option maxHeartbeats 4000000 in
set_option maxRecDepth 100000 in
theorem gd_Mo_readsMove_60_J46 {y0 : Int32} {σ : xS} {r : Unit × xS} (h : f_Mo_readsMove_60_J46 y0 σ = some r) : x_gd σ r.2 := by
  unfold f_Mo_readsMove_60_J46 at h
  try dsimp only at h
  obtain ⟨q8, q8h, h⟩ := x_bind h
  try dsimp only at h
  have q8f := gd_Mo_numberHere_60 q8h
  refine x_iteC h (fun h => ?_) (fun h => ?_)
  · skip
    cases h
    exact (x_gd.trans x_gd.rf q8f)
  · skip
    refine x_iteC h (fun h => ?_) (fun h => ?_)
    · skip
      exact x_gd.trans (x_gd.trans x_gd.rf q8f) (x_gd.of (fr_Mo_readsMove_60_J78 h) rfl rfl)
    · skip
      obtain ⟨q9, q9h, h⟩ := x_bind h
      try dsimp only at h
      have q9f := gd_Mo_wrong_60 (show ¬ (2 : Int32) = 0 by decide) q9h
      exact x_gd.trans (x_gd.trans (x_gd.trans x_gd.rf q8f) q9f) (x_gd.of (fr_Mo_readsMove_60_J78 h) rfl rfl)
set_option maxHeartbeats 4000000 in
set_option maxRecDepth 100000 in
theorem gd_Mo_readsMove_60_J14 {v1 : Int32} {σ : xS} {r : Unit × xS} (h : f_Mo_readsMove_60_J14 v1 σ = some r) : x_gd σ r.2 := by
  unfold f_Mo_readsMove_60_J14 at h
  try dsimp only at h
  obtain ⟨q10, q10h, h⟩ := x_bind h
  try dsimp only at h
  have q10f := x_gd.of (fr_Mo_isGood_60 q10h) rfl rfl
  refine x_iteC h (fun h => ?_) (fun h => ?_)
  · skip
    cases h
    exact (x_gd.trans x_gd.rf q10f)
  · skip
    obtain ⟨q11, q11h, h⟩ := x_bind h
    try dsimp only at h
    have q11f := x_gd.of (fr_Mo_goes_60 q11h) rfl rfl
    refine x_iteC h (fun h => ?_) (fun h => ?_)
    · skip
      obtain ⟨q12, q12h, h⟩ := x_bind h
      try dsimp only at h
      have q12f := gd_Mo_number_60 q12h
      exact x_gd.trans (x_gd.trans (x_gd.trans (x_gd.trans x_gd.rf q10f) q11f) q12f) (gd_Mo_readsMove_60_J46 h)
    · skip
      exact x_gd.trans (x_gd.trans (x_gd.trans x_gd.rf q10f) q11f) (gd_Mo_readsMove_60_J46 h)
set_option maxHeartbeats 4000000 in
set_option maxRecDepth 100000 in
theorem gd_Mo_readsMove_60 {v1 : Int32} {σ : xS} {r : Unit × xS} (h : f_Mo_readsMove_60 v1 σ = some r) : x_gd σ r.2 := by
  unfold f_Mo_readsMove_60 at h
  try dsimp only at h
  refine x_iteC h (fun h => ?_) (fun h => ?_)
  · skip
    obtain ⟨q13, q13h, h⟩ := x_bind h
    try dsimp only at h
    have q13f := gd_Mo_wrong_60 (show ¬ (2 : Int32) = 0 by decide) q13h
    exact x_gd.trans (x_gd.trans x_gd.rf q13f) (gd_Mo_readsMove_60_J14 h)
  · skip
    exact x_gd.trans x_gd.rf (gd_Mo_readsMove_60_J14 h)
set_option maxHeartbeats 4000000 in
set_option maxRecDepth 100000 in
theorem gd_Mo_readsChange_60_J50 {v1 : Int32} {y0 : Int32} {σ : xS} {r : Unit × xS} (h : f_Mo_readsChange_60_J50 v1 y0 σ = some r) : x_gd σ r.2 := by
  unfold f_Mo_readsChange_60_J50 at h
  try dsimp only at h
  obtain ⟨q1, q1h, h⟩ := x_bind h
  try dsimp only at h
  have q1f := gd_Mo_number_60 q1h
  obtain ⟨q3, q3h, h⟩ := x_bind h
  try dsimp only at h
  have q3f := x_gd.of (fr_Mo_isGood_60 q3h) rfl rfl
  refine x_iteC h (fun h => ?_) (fun h => ?_)
  · skip
    cases h
    exact (x_gd.trans (x_gd.trans x_gd.rf q1f) q3f)
  · skip
    obtain ⟨-, h⟩ := x_ifn h
    obtain ⟨-, h⟩ := x_ifn h
    cases h
    exact (x_gdI (p := 60) (k := 29) (by omega) (x_gdI (p := 72) (by omega) (x_gdI (p := 71) (by omega) (x_gd.trans (x_gd.trans x_gd.rf q1f) q3f))))
set_option maxHeartbeats 4000000 in
set_option maxRecDepth 100000 in
theorem gd_Mo_readsChange_60_J14 {v1 : Int32} {σ : xS} {r : Unit × xS} (h : f_Mo_readsChange_60_J14 v1 σ = some r) : x_gd σ r.2 := by
  unfold f_Mo_readsChange_60_J14 at h
  try dsimp only at h
  obtain ⟨q7, q7h, h⟩ := x_bind h
  try dsimp only at h
  have q7f := x_gd.of (fr_Mo_isGood_60 q7h) rfl rfl
  refine x_iteC h (fun h => ?_) (fun h => ?_)
  · skip
    cases h
    exact (x_gd.trans x_gd.rf q7f)
  · skip
    obtain ⟨q8, q8h, h⟩ := x_bind h
    try dsimp only at h
    have q8f := x_gd.of (fr_Mo_goes_60 q8h) rfl rfl
    refine x_iteC h (fun h => ?_) (fun h => ?_)
    · skip
      exact x_gd.trans (x_gd.trans (x_gd.trans x_gd.rf q7f) q8f) (gd_Mo_readsChange_60_J50 h)
    · skip
      obtain ⟨-, h⟩ := x_ifn h
      exact x_gd.trans (x_gd.trans (x_gd.trans x_gd.rf q7f) q8f) (gd_Mo_readsChange_60_J50 h)
set_option maxHeartbeats 4000000 in
set_option maxRecDepth 100000 in
theorem gd_Mo_readsChange_60 {v1 : Int32} {σ : xS} {r : Unit × xS} (h : f_Mo_readsChange_60 v1 σ = some r) : x_gd σ r.2 := by
  unfold f_Mo_readsChange_60 at h
  try dsimp only at h
  refine x_iteC h (fun h => ?_) (fun h => ?_)
  · skip
    obtain ⟨q9, q9h, h⟩ := x_bind h
    try dsimp only at h
    have q9f := gd_Mo_wrong_60 (show ¬ (2 : Int32) = 0 by decide) q9h
    exact x_gd.trans (x_gd.trans x_gd.rf q9f) (gd_Mo_readsChange_60_J14 h)
  · skip
    exact x_gd.trans x_gd.rf (gd_Mo_readsChange_60_J14 h)
set_option maxHeartbeats 4000000 in
set_option maxRecDepth 100000 in
theorem gd_Mo_readsMark_60_L41 {a : Int32 × xS} {o : (Int32 × xS) ⊕ (Int32 × xS)} (h : f_Mo_readsMark_60_L41 a = some o) : x_gdO (fun a => a.2) (fun b => b.2) a.2 o := by
  unfold f_Mo_readsMark_60_L41 at h
  try dsimp only at h
  refine x_iteC h (fun h => ?_) (fun h => ?_)
  · skip
    cases h
    exact x_gdO.b x_gd.rf
  · skip
    obtain ⟨q1, q1h, h⟩ := x_bind h
    try dsimp only at h
    have q1f := x_gd.of (fr_Mo_isGood_60 q1h) rfl rfl
    refine x_iteC h (fun h => ?_) (fun h => ?_)
    · skip
      cases h
      exact x_gdO.b (x_gd.trans x_gd.rf q1f)
    · skip
      obtain ⟨-, h⟩ := x_ifn h
      refine x_iteC h (fun h => ?_) (fun h => ?_)
      · skip
        obtain ⟨q3, q3h, h⟩ := x_bind h
        try dsimp only at h
        have q3f := gd_Mo_wrong_60 (show ¬ (4 : Int32) = 0 by decide) q3h
        cases h
        exact x_gdO.a1 (x_gd.trans (x_gd.trans x_gd.rf q1f) q3f)
      · skip
        cases h
        exact x_gdO.a1 (x_gd.trans x_gd.rf q1f)
set_option maxHeartbeats 4000000 in
set_option maxRecDepth 100000 in
theorem gd_Mo_readsMark_60_J14 {σ : xS} {r : Unit × xS} (h : f_Mo_readsMark_60_J14 σ = some r) : x_gd σ r.2 := by
  unfold f_Mo_readsMark_60_J14 at h
  try dsimp only at h
  obtain ⟨q9, q9h, h⟩ := x_bind h
  try dsimp only at h
  have q9f := x_gd.of (fr_Mo_isGood_60 q9h) rfl rfl
  refine x_iteC h (fun h => ?_) (fun h => ?_)
  · skip
    cases h
    exact (x_gd.trans x_gd.rf q9f)
  · skip
    obtain ⟨q10, q10h, h⟩ := x_bind h
    try dsimp only at h
    have q10f := x_gd.of (fr_Mo_goes_60 q10h) rfl rfl
    obtain ⟨q11, q11h, h⟩ := x_bind h
    try dsimp only at h
    have q11f := gd_Mo_numberHere_60 q11h
    refine x_iteC h (fun h => ?_) (fun h => ?_)
    · skip
      cases h
      exact (x_gd.trans (x_gd.trans (x_gd.trans x_gd.rf q9f) q10f) q11f)
    · skip
      obtain ⟨b12, b12h, h⟩ := x_bind h
      try dsimp only at h
      have b12f := x_itG (sA := (fun a => a.2)) (sB := (fun b => b.2)) (fun a o h => gd_Mo_readsMark_60_L41 h) _ _ _ b12h
      exact x_gd.trans (x_gd.trans (x_gd.trans (x_gd.trans (x_gd.trans x_gd.rf q9f) q10f) q11f) b12f) (x_gd.of (fr_Mo_readsMark_60_J80 h) rfl rfl)
set_option maxHeartbeats 4000000 in
set_option maxRecDepth 100000 in
theorem gd_Mo_readsMark_60 {σ : xS} {r : Unit × xS} (h : f_Mo_readsMark_60 σ = some r) : x_gd σ r.2 := by
  unfold f_Mo_readsMark_60 at h
  try dsimp only at h
  refine x_iteC h (fun h => ?_) (fun h => ?_)
  · skip
    obtain ⟨q13, q13h, h⟩ := x_bind h
    try dsimp only at h
    have q13f := gd_Mo_wrong_60 (show ¬ (2 : Int32) = 0 by decide) q13h
    exact x_gd.trans (x_gd.trans x_gd.rf q13f) (gd_Mo_readsMark_60_J14 h)
  · skip
    exact x_gd.trans x_gd.rf (gd_Mo_readsMark_60_J14 h)
set_option maxHeartbeats 4000000 in
set_option maxRecDepth 100000 in
theorem gd_Mo_readsRule_60_J95 {v1 : Int32} {σ : xS} {r : Unit × xS} (h : f_Mo_readsRule_60_J95 v1 σ = some r) : x_gd σ r.2 := by
  unfold f_Mo_readsRule_60_J95 at h
  try dsimp only at h
  refine x_iteC h (fun h => ?_) (fun h => ?_)
  · skip
    obtain ⟨q2, q2h, h⟩ := x_bind h
    try dsimp only at h
    have q2f := gd_Mo_expression_60 q2h
    cases h
    exact (x_gd.trans x_gd.rf q2f)
  · skip
    obtain ⟨q1, q1h, h⟩ := x_bind h
    try dsimp only at h
    have q1f := gd_Mo_expression_60 q1h
    cases h
    exact (x_gd.trans x_gd.rf q1f)
set_option maxHeartbeats 4000000 in
set_option maxRecDepth 100000 in
theorem gd_Mo_readsRule_60_J19 {σ : xS} {r : Unit × xS} (h : f_Mo_readsRule_60_J19 σ = some r) : x_gd σ r.2 := by
  unfold f_Mo_readsRule_60_J19 at h
  try dsimp only at h
  obtain ⟨q3, q3h, h⟩ := x_bind h
  try dsimp only at h
  have q3f := x_gd.of (fr_Mo_isGood_60 q3h) rfl rfl
  refine x_iteC h (fun h => ?_) (fun h => ?_)
  · skip
    cases h
    exact (x_gd.trans x_gd.rf q3f)
  · skip
    obtain ⟨q4, q4h, h⟩ := x_bind h
    try dsimp only at h
    have q4f := x_gd.of (fr_Mo_goes_60 q4h) rfl rfl
    obtain ⟨-, h⟩ := x_ifn h
    obtain ⟨q7, q7h, h⟩ := x_bind h
    try dsimp only at h
    have q7f := gd_Mo_expression_60 q7h
    cases h
    exact (x_gd.trans (x_gdI (p := 60) (k := 31) (by omega) (x_gdI (p := 75) (by omega) (x_gd.trans (x_gd.trans x_gd.rf q3f) q4f))) q7f)
set_option maxHeartbeats 4000000 in
set_option maxRecDepth 100000 in
theorem gd_Mo_readsRule_60 {v1 : Int32} {σ : xS} {r : Unit × xS} (h : f_Mo_readsRule_60 v1 σ = some r) : x_gd σ r.2 := by
  unfold f_Mo_readsRule_60 at h
  try dsimp only at h
  refine x_iteC h (fun h => ?_) (fun h => ?_)
  · skip
    refine x_iteC h (fun h => ?_) (fun h => ?_)
    · skip
      obtain ⟨q11, q11h, h⟩ := x_bind h
      try dsimp only at h
      have q11f := gd_Mo_wrong_60 (show ¬ (2 : Int32) = 0 by decide) q11h
      exact x_gd.trans (x_gd.trans x_gd.rf q11f) (gd_Mo_readsRule_60_J19 h)
    · skip
      exact x_gd.trans x_gd.rf (gd_Mo_readsRule_60_J19 h)
  · skip
    obtain ⟨q8, q8h, h⟩ := x_bind h
    try dsimp only at h
    have q8f := gd_Mo_once_60 q8h
    refine x_iteC h (fun h => ?_) (fun h => ?_)
    · skip
      cases h
      exact (x_gd.trans x_gd.rf q8f)
    · skip
      refine x_iteC h (fun h => ?_) (fun h => ?_)
      · skip
        exact x_gd.trans (x_gdI (p := 60) (k := 32) (by omega) (x_gd.trans x_gd.rf q8f)) (gd_Mo_readsRule_60_J95 h)
      · skip
        exact x_gd.trans (x_gdI (p := 60) (k := 33) (by omega) (x_gd.trans x_gd.rf q8f)) (gd_Mo_readsRule_60_J95 h)
set_option maxHeartbeats 4000000 in
set_option maxRecDepth 100000 in
theorem gd_Mo_line_60_J253 {v2 : Int32} {σ : xS} {r : Unit × xS} (h : f_Mo_line_60_J253 v2 σ = some r) : x_gd σ r.2 := by
  unfold f_Mo_line_60_J253 at h
  try dsimp only at h
  obtain ⟨q1, q1h, h⟩ := x_bind h
  try dsimp only at h
  have q1f := gd_Mo_number_60 q1h
  refine x_iteC h (fun h => ?_) (fun h => ?_)
  · skip
    obtain ⟨q4, q4h, h⟩ := x_bind h
    try dsimp only at h
    have q4f := x_gd.of (fr_Mo_isSign_60 q4h) rfl rfl
    obtain ⟨q5, q5h, h⟩ := x_bind h
    try dsimp only at h
    have q5f := gd_Mo_need_60 q5h
    cases h
    exact (x_gd.trans (x_gd.trans (x_gdI (p := 74) (k := 3) (by omega) (x_gd.trans x_gd.rf q1f)) q4f) q5f)
  · skip
    obtain ⟨q7, q7h, h⟩ := x_bind h
    try dsimp only at h
    have q7f := x_gd.of (fr_Mo_isSign_60 q7h) rfl rfl
    obtain ⟨q8, q8h, h⟩ := x_bind h
    try dsimp only at h
    have q8f := gd_Mo_need_60 q8h
    cases h
    exact (x_gd.trans (x_gd.trans (x_gdI (p := 74) (k := 3) (by omega) (x_gd.trans x_gd.rf q1f)) q7f) q8f)
set_option maxHeartbeats 4000000 in
set_option maxRecDepth 100000 in
theorem gd_Mo_line_60_J47 {v1 : Int32} {σ : xS} {r : Unit × xS} (h : f_Mo_line_60_J47 v1 σ = some r) : x_gd σ r.2 := by
  unfold f_Mo_line_60_J47 at h
  try dsimp only at h
  refine x_iteC h (fun h => ?_) (fun h => ?_)
  · skip
    obtain ⟨q12, q12h, h⟩ := x_bind h
    try dsimp only at h
    have q12f := gd_Mo_readsChange_60 q12h
    obtain ⟨q13, q13h, h⟩ := x_bind h
    try dsimp only at h
    have q13f := x_gd.of (fr_Mo_isSign_60 q13h) rfl rfl
    obtain ⟨q14, q14h, h⟩ := x_bind h
    try dsimp only at h
    have q14f := gd_Mo_need_60 q14h
    cases h
    exact (x_gd.trans (x_gd.trans (x_gd.trans x_gd.rf q12f) q13f) q14f)
  · skip
    obtain ⟨q9, q9h, h⟩ := x_bind h
    try dsimp only at h
    have q9f := gd_Mo_readsChange_60 q9h
    obtain ⟨q10, q10h, h⟩ := x_bind h
    try dsimp only at h
    have q10f := x_gd.of (fr_Mo_isSign_60 q10h) rfl rfl
    obtain ⟨q11, q11h, h⟩ := x_bind h
    try dsimp only at h
    have q11f := gd_Mo_need_60 q11h
    cases h
    exact (x_gd.trans (x_gd.trans (x_gd.trans x_gd.rf q9f) q10f) q11f)
set_option maxHeartbeats 4000000 in
set_option maxRecDepth 100000 in
theorem gd_Mo_line_60_J17 {v1 : Int32} {σ : xS} {r : Unit × xS} (h : f_Mo_line_60_J17 v1 σ = some r) : x_gd σ r.2 := by
  unfold f_Mo_line_60_J17 at h
  try dsimp only at h
  refine x_iteC h (fun h => ?_) (fun h => ?_)
  · skip
    obtain ⟨q18, q18h, h⟩ := x_bind h
    try dsimp only at h
    have q18f := gd_Mo_readsMove_60 q18h
    obtain ⟨q19, q19h, h⟩ := x_bind h
    try dsimp only at h
    have q19f := x_gd.of (fr_Mo_isSign_60 q19h) rfl rfl
    obtain ⟨q20, q20h, h⟩ := x_bind h
    try dsimp only at h
    have q20f := gd_Mo_need_60 q20h
    cases h
    exact (x_gd.trans (x_gd.trans (x_gd.trans x_gd.rf q18f) q19f) q20f)
  · skip
    obtain ⟨q15, q15h, h⟩ := x_bind h
    try dsimp only at h
    have q15f := gd_Mo_readsMove_60 q15h
    obtain ⟨q16, q16h, h⟩ := x_bind h
    try dsimp only at h
    have q16f := x_gd.of (fr_Mo_isSign_60 q16h) rfl rfl
    obtain ⟨q17, q17h, h⟩ := x_bind h
    try dsimp only at h
    have q17f := gd_Mo_need_60 q17h
    cases h
    exact (x_gd.trans (x_gd.trans (x_gd.trans x_gd.rf q15f) q16f) q17f)
set_option maxHeartbeats 4000000 in
set_option maxRecDepth 100000 in
theorem gd_Mo_line_60 {σ : xS} {r : Unit × xS} (h : f_Mo_line_60 σ = some r) : x_gd σ r.2 := by
  unfold f_Mo_line_60 at h
  try dsimp only at h
  obtain ⟨q21, q21h, h⟩ := x_bind h
  try dsimp only at h
  have q21f := x_gd.of (fr_Mo_knownWord_60 q21h) rfl rfl
  refine x_iteC h (fun h => ?_) (fun h => ?_)
  · skip
    exact x_gd.trans (x_gd.trans x_gd.rf q21f) (gd_Mo_line_60_J17 h)
  · skip
    refine x_iteC h (fun h => ?_) (fun h => ?_)
    · skip
      exact x_gd.trans (x_gd.trans x_gd.rf q21f) (gd_Mo_line_60_J17 h)
    · skip
      refine x_iteC h (fun h => ?_) (fun h => ?_)
      · skip
        exact x_gd.trans (x_gd.trans x_gd.rf q21f) (gd_Mo_line_60_J47 h)
      · skip
        refine x_iteC h (fun h => ?_) (fun h => ?_)
        · skip
          exact x_gd.trans (x_gd.trans x_gd.rf q21f) (gd_Mo_line_60_J47 h)
        · skip
          refine x_iteC h (fun h => ?_) (fun h => ?_)
          · skip
            obtain ⟨q67, q67h, h⟩ := x_bind h
            try dsimp only at h
            have q67f := gd_Mo_readsMark_60 q67h
            obtain ⟨q68, q68h, h⟩ := x_bind h
            try dsimp only at h
            have q68f := x_gd.of (fr_Mo_isSign_60 q68h) rfl rfl
            obtain ⟨q69, q69h, h⟩ := x_bind h
            try dsimp only at h
            have q69f := gd_Mo_need_60 q69h
            cases h
            exact (x_gd.trans (x_gd.trans (x_gd.trans (x_gd.trans x_gd.rf q21f) q67f) q68f) q69f)
          · skip
            refine x_iteC h (fun h => ?_) (fun h => ?_)
            · skip
              obtain ⟨q23, q23h, h⟩ := x_bind h
              try dsimp only at h
              have q23f := gd_Mo_readsRule_60 q23h
              obtain ⟨q24, q24h, h⟩ := x_bind h
              try dsimp only at h
              have q24f := x_gd.of (fr_Mo_isSign_60 q24h) rfl rfl
              obtain ⟨q25, q25h, h⟩ := x_bind h
              try dsimp only at h
              have q25f := gd_Mo_need_60 q25h
              cases h
              exact (x_gd.trans (x_gd.trans (x_gd.trans (x_gd.trans x_gd.rf q21f) q23f) q24f) q25f)
            · skip
              refine x_iteC h (fun h => ?_) (fun h => ?_)
              · skip
                obtain ⟨q26, q26h, h⟩ := x_bind h
                try dsimp only at h
                have q26f := gd_Mo_readsRule_60 q26h
                obtain ⟨q27, q27h, h⟩ := x_bind h
                try dsimp only at h
                have q27f := x_gd.of (fr_Mo_isSign_60 q27h) rfl rfl
                obtain ⟨q28, q28h, h⟩ := x_bind h
                try dsimp only at h
                have q28f := gd_Mo_need_60 q28h
                cases h
                exact (x_gd.trans (x_gd.trans (x_gd.trans (x_gd.trans x_gd.rf q21f) q26f) q27f) q28f)
              · skip
                refine x_iteC h (fun h => ?_) (fun h => ?_)
                · skip
                  obtain ⟨q64, q64h, h⟩ := x_bind h
                  try dsimp only at h
                  have q64f := gd_Mo_readsRule_60 q64h
                  obtain ⟨q65, q65h, h⟩ := x_bind h
                  try dsimp only at h
                  have q65f := x_gd.of (fr_Mo_isSign_60 q65h) rfl rfl
                  obtain ⟨q66, q66h, h⟩ := x_bind h
                  try dsimp only at h
                  have q66f := gd_Mo_need_60 q66h
                  cases h
                  exact (x_gd.trans (x_gd.trans (x_gd.trans (x_gd.trans x_gd.rf q21f) q64f) q65f) q66f)
                · skip
                  refine x_iteC h (fun h => ?_) (fun h => ?_)
                  · skip
                    obtain ⟨q57, q57h, h⟩ := x_bind h
                    try dsimp only at h
                    have q57f := gd_Mo_once_60 q57h
                    refine x_iteC h (fun h => ?_) (fun h => ?_)
                    · skip
                      obtain ⟨q58, q58h, h⟩ := x_bind h
                      try dsimp only at h
                      have q58f := x_gd.of (fr_Mo_isSign_60 q58h) rfl rfl
                      obtain ⟨q59, q59h, h⟩ := x_bind h
                      try dsimp only at h
                      have q59f := gd_Mo_need_60 q59h
                      cases h
                      exact (x_gd.trans (x_gd.trans (x_gd.trans (x_gd.trans x_gd.rf q21f) q57f) q58f) q59f)
                    · skip
                      obtain ⟨q60, q60h, h⟩ := x_bind h
                      try dsimp only at h
                      have q60f := gd_Mo_number_60 q60h
                      obtain ⟨q62, q62h, h⟩ := x_bind h
                      try dsimp only at h
                      have q62f := x_gd.of (fr_Mo_isSign_60 q62h) rfl rfl
                      obtain ⟨q63, q63h, h⟩ := x_bind h
                      try dsimp only at h
                      have q63f := gd_Mo_need_60 q63h
                      cases h
                      exact (x_gd.trans (x_gd.trans (x_gdI (p := 74) (k := 4) (by omega) (x_gd.trans (x_gd.trans (x_gd.trans x_gd.rf q21f) q57f) q60f)) q62f) q63f)
                  · skip
                    refine x_iteC h (fun h => ?_) (fun h => ?_)
                    · skip
                      obtain ⟨q50, q50h, h⟩ := x_bind h
                      try dsimp only at h
                      have q50f := gd_Mo_once_60 q50h
                      refine x_iteC h (fun h => ?_) (fun h => ?_)
                      · skip
                        obtain ⟨q51, q51h, h⟩ := x_bind h
                        try dsimp only at h
                        have q51f := x_gd.of (fr_Mo_isSign_60 q51h) rfl rfl
                        obtain ⟨q52, q52h, h⟩ := x_bind h
                        try dsimp only at h
                        have q52f := gd_Mo_need_60 q52h
                        cases h
                        exact (x_gd.trans (x_gd.trans (x_gd.trans (x_gd.trans x_gd.rf q21f) q50f) q51f) q52f)
                      · skip
                        obtain ⟨q53, q53h, h⟩ := x_bind h
                        try dsimp only at h
                        have q53f := gd_Mo_number_60 q53h
                        obtain ⟨q55, q55h, h⟩ := x_bind h
                        try dsimp only at h
                        have q55f := x_gd.of (fr_Mo_isSign_60 q55h) rfl rfl
                        obtain ⟨q56, q56h, h⟩ := x_bind h
                        try dsimp only at h
                        have q56f := gd_Mo_need_60 q56h
                        cases h
                        exact (x_gd.trans (x_gd.trans (x_gdI (p := 74) (k := 0) (by omega) (x_gd.trans (x_gd.trans (x_gd.trans x_gd.rf q21f) q50f) q53f)) q55f) q56f)
                    · skip
                      refine x_iteC h (fun h => ?_) (fun h => ?_)
                      · skip
                        obtain ⟨q43, q43h, h⟩ := x_bind h
                        try dsimp only at h
                        have q43f := gd_Mo_once_60 q43h
                        refine x_iteC h (fun h => ?_) (fun h => ?_)
                        · skip
                          obtain ⟨q44, q44h, h⟩ := x_bind h
                          try dsimp only at h
                          have q44f := x_gd.of (fr_Mo_isSign_60 q44h) rfl rfl
                          obtain ⟨q45, q45h, h⟩ := x_bind h
                          try dsimp only at h
                          have q45f := gd_Mo_need_60 q45h
                          cases h
                          exact (x_gd.trans (x_gd.trans (x_gd.trans (x_gd.trans x_gd.rf q21f) q43f) q44f) q45f)
                        · skip
                          obtain ⟨q46, q46h, h⟩ := x_bind h
                          try dsimp only at h
                          have q46f := gd_Mo_number_60 q46h
                          obtain ⟨q48, q48h, h⟩ := x_bind h
                          try dsimp only at h
                          have q48f := x_gd.of (fr_Mo_isSign_60 q48h) rfl rfl
                          obtain ⟨q49, q49h, h⟩ := x_bind h
                          try dsimp only at h
                          have q49f := gd_Mo_need_60 q49h
                          cases h
                          exact (x_gd.trans (x_gd.trans (x_gdI (p := 74) (k := 1) (by omega) (x_gd.trans (x_gd.trans (x_gd.trans x_gd.rf q21f) q43f) q46f)) q48f) q49f)
                      · skip
                        refine x_iteC h (fun h => ?_) (fun h => ?_)
                        · skip
                          obtain ⟨q36, q36h, h⟩ := x_bind h
                          try dsimp only at h
                          have q36f := gd_Mo_once_60 q36h
                          refine x_iteC h (fun h => ?_) (fun h => ?_)
                          · skip
                            obtain ⟨q37, q37h, h⟩ := x_bind h
                            try dsimp only at h
                            have q37f := x_gd.of (fr_Mo_isSign_60 q37h) rfl rfl
                            obtain ⟨q38, q38h, h⟩ := x_bind h
                            try dsimp only at h
                            have q38f := gd_Mo_need_60 q38h
                            cases h
                            exact (x_gd.trans (x_gd.trans (x_gd.trans (x_gd.trans x_gd.rf q21f) q36f) q37f) q38f)
                          · skip
                            obtain ⟨q39, q39h, h⟩ := x_bind h
                            try dsimp only at h
                            have q39f := gd_Mo_number_60 q39h
                            obtain ⟨q41, q41h, h⟩ := x_bind h
                            try dsimp only at h
                            have q41f := x_gd.of (fr_Mo_isSign_60 q41h) rfl rfl
                            obtain ⟨q42, q42h, h⟩ := x_bind h
                            try dsimp only at h
                            have q42f := gd_Mo_need_60 q42h
                            cases h
                            exact (x_gd.trans (x_gd.trans (x_gdI (p := 74) (k := 2) (by omega) (x_gd.trans (x_gd.trans (x_gd.trans x_gd.rf q21f) q36f) q39f)) q41f) q42f)
                        · skip
                          refine x_iteC h (fun h => ?_) (fun h => ?_)
                          · skip
                            obtain ⟨q32, q32h, h⟩ := x_bind h
                            try dsimp only at h
                            have q32f := gd_Mo_once_60 q32h
                            refine x_iteC h (fun h => ?_) (fun h => ?_)
                            · skip
                              cases h
                              exact (x_gd.trans (x_gd.trans x_gd.rf q21f) q32f)
                            · skip
                              obtain ⟨q33, q33h, h⟩ := x_bind h
                              try dsimp only at h
                              have q33f := x_gd.of (fr_Mo_isSign_60 q33h) rfl rfl
                              refine x_iteC h (fun h => ?_) (fun h => ?_)
                              · skip
                                exact x_gd.trans (x_gd.trans (x_gd.trans (x_gd.trans x_gd.rf q21f) q32f) q33f) (gd_Mo_line_60_J253 h)
                              · skip
                                obtain ⟨q35, q35h, h⟩ := x_bind h
                                try dsimp only at h
                                have q35f := x_gd.of (fr_Mo_goes_60 q35h) rfl rfl
                                exact x_gd.trans (x_gd.trans (x_gd.trans (x_gd.trans (x_gd.trans x_gd.rf q21f) q32f) q33f) q35f) (gd_Mo_line_60_J253 h)
                          · skip
                            obtain ⟨q29, q29h, h⟩ := x_bind h
                            try dsimp only at h
                            have q29f := gd_Mo_wrong_60 (show ¬ (1 : Int32) = 0 by decide) q29h
                            obtain ⟨q30, q30h, h⟩ := x_bind h
                            try dsimp only at h
                            have q30f := x_gd.of (fr_Mo_isSign_60 q30h) rfl rfl
                            obtain ⟨q31, q31h, h⟩ := x_bind h
                            try dsimp only at h
                            have q31f := gd_Mo_need_60 q31h
                            cases h
                            exact (x_gd.trans (x_gd.trans (x_gd.trans (x_gd.trans x_gd.rf q21f) q29f) q30f) q31f)
