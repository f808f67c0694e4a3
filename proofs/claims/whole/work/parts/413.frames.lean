/-! Frames. Written by wip/gen/frames.py. -/
set_option maxHeartbeats 4000000 in
set_option maxRecDepth 100000 in
theorem fr_RH_isNearMark_36_L4 {v1 : Int32} {v2 : Int32} {v3 : Int32} {a : Int32 × xS} {o : ((Int32 × xS) ⊕ (Int32 × xS)) ⊕ (Int32 × xS)} (h : f_RH_isNearMark_36_L4 v1 v2 v3 a = some o) : x_frO [] (fun a => a.2) (fun b => match b with | .inl q => q.2 | .inr e => e.2) a.2 o := by
  unfold f_RH_isNearMark_36_L4 at h
  try dsimp only at h
  refine x_iteC h (fun h => ?_) (fun h => ?_)
  · skip
    cases h
    exact x_frO.b x_fr.rf
  · skip
    refine x_iteC h (fun h => ?_) (fun h => ?_)
    · skip
      cases h
      exact x_frO.b x_fr.rf
    · skip
      obtain ⟨-, h⟩ := x_ifn h
      refine x_iteC h (fun h => ?_) (fun h => ?_)
      · skip
        cases h
        exact x_frO.a1 x_fr.rf
      · skip
        cases h
        exact x_frO.b x_fr.rf
set_option maxHeartbeats 4000000 in
set_option maxRecDepth 100000 in
theorem fr_RH_isNearMark_36 {v1 : Int32} {v2 : Int32} {v3 : Int32} {σ : xS} {r : Int32 × xS} (h : f_RH_isNearMark_36 v1 v2 v3 σ = some r) : x_fr [] σ r.2 := by
  unfold f_RH_isNearMark_36 at h
  try dsimp only at h
  obtain ⟨b2, b2h, h⟩ := x_bind h
  try dsimp only at h
  have b2f := x_itF (sA := (fun a => a.2)) (sB := (fun b => match b with | .inl q => q.2 | .inr e => e.2)) (fun a o h => fr_RH_isNearMark_36_L4 h) _ _ _ b2h
  cases b2 with
  | inl b2r =>
    try dsimp only at h
    cases h
    exact (x_fr.trans x_fr.rf (x_fr.su b2f rfl))
  | inr b2e =>
    try dsimp only at h
    cases h
    exact (x_fr.trans x_fr.rf (x_fr.su b2f rfl))
set_option maxHeartbeats 4000000 in
set_option maxRecDepth 100000 in
theorem fr_RH_chalk_0_J51 {v1 : Int32} {v2 : Int32} {σ : xS} {r : (Int32 ⊕ Nat) × xS} (h : f_RH_chalk_0_J51 v1 v2 σ = some r) : x_fr [(0, 9), (35, 3), (36, 99999), (37, 99999), (38, 99999), (59, 99999)] σ r.2 := by
  unfold f_RH_chalk_0_J51 at h
  try dsimp only at h
  obtain ⟨q1, q1h, h⟩ := x_bind h
  try dsimp only at h
  have q1f := fr_RH_set_0 q1h
  cases h
  exact (x_fr.trans x_fr.rf (x_fr.su q1f rfl))
set_option maxHeartbeats 4000000 in
set_option maxRecDepth 100000 in
theorem fr_RH_chalk_0 {v1 : Int32} {v2 : Int32} {σ : xS} {r : (Int32 ⊕ Nat) × xS} (h : f_RH_chalk_0 v1 v2 σ = some r) : x_fr [(0, 9), (35, 3), (36, 99999), (37, 99999), (38, 99999), (59, 99999)] σ r.2 := by
  unfold f_RH_chalk_0 at h
  try dsimp only at h
  obtain ⟨q2, q2h, h⟩ := x_bind h
  try dsimp only at h
  have q2f := fr_RH_isMark_0 q2h
  refine x_iteC h (fun h => ?_) (fun h => ?_)
  · skip
    cases h
    exact (x_fr.trans x_fr.rf (x_fr.su q2f rfl))
  · skip
    obtain ⟨q3, q3h, h⟩ := x_bind h
    try dsimp only at h
    have q3f := fr_RH_isInches q3h
    refine x_iteC h (fun h => ?_) (fun h => ?_)
    · skip
      exact x_fr.trans (x_fr.trans (x_fr.trans x_fr.rf (x_fr.su q2f rfl)) (x_fr.su q3f rfl)) (x_fr.su (fr_RH_chalk_0_J51 h) rfl)
    · skip
      obtain ⟨q4, q4h, h⟩ := x_bind h
      try dsimp only at h
      have q4f := fr_RH_isNearMark_36 q4h
      refine x_iteC h (fun h => ?_) (fun h => ?_)
      · skip
        obtain ⟨q5, q5h, h⟩ := x_bind h
        try dsimp only at h
        have q5f := fr_RH_set_0 q5h
        cases h
        exact (x_fr.trans (x_fr.trans (x_fr.trans (x_fr.trans x_fr.rf (x_fr.su q2f rfl)) (x_fr.su q3f rfl)) (x_fr.su q4f rfl)) (x_fr.su q5f rfl))
      · skip
        exact x_fr.trans (x_fr.trans (x_fr.trans (x_fr.trans x_fr.rf (x_fr.su q2f rfl)) (x_fr.su q3f rfl)) (x_fr.su q4f rfl)) (x_fr.su (fr_RH_chalk_0_J51 h) rfl)
set_option maxHeartbeats 4000000 in
set_option maxRecDepth 100000 in
theorem fr_Se_takeBack_35 {σ : xS} {r : Int32 × xS} (h : f_Se_takeBack_35 σ = some r) : x_fr [(35, 3), (36, 99999)] σ r.2 := by
  unfold f_Se_takeBack_35 at h
  try dsimp only at h
  refine x_iteC h (fun h => ?_) (fun h => ?_)
  · skip
    cases h
    exact x_fr.rf
  · skip
    refine x_iteC h (fun h => ?_) (fun h => ?_)
    · skip
      obtain ⟨-, h⟩ := x_ifn h
      refine x_iteC h (fun h => ?_) (fun h => ?_)
      · skip
        cases h
        exact (x_frI (p := 35) (k := 3) rfl x_fr.rf)
      · skip
        refine x_iteC h (fun h => ?_) (fun h => ?_)
        · skip
          cases h
          exact (x_frI (p := 35) (k := 3) rfl x_fr.rf)
        · skip
          obtain ⟨-, h⟩ := x_ifn h
          obtain ⟨-, h⟩ := x_ifn h
          cases h
          exact (x_frI (p := 36) rfl (x_frI (p := 35) (k := 3) rfl x_fr.rf))
    · skip
      cases h
      exact x_fr.rf
set_option maxHeartbeats 4000000 in
set_option maxRecDepth 100000 in
theorem fr_RH_undo_0 {σ : xS} {r : Int32 × xS} (h : f_RH_undo_0 σ = some r) : x_fr [(0, 9), (35, 3), (36, 99999)] σ r.2 := by
  unfold f_RH_undo_0 at h
  try dsimp only at h
  refine x_iteC h (fun h => ?_) (fun h => ?_)
  · skip
    cases h
    exact x_fr.rf
  · skip
    obtain ⟨q2, q2h, h⟩ := x_bind h
    try dsimp only at h
    have q2f := fr_Se_takeBack_35 q2h
    cases h
    exact (x_fr.trans (x_frI (p := 0) (k := 9) rfl x_fr.rf) (x_fr.su q2f rfl))
set_option maxHeartbeats 4000000 in
set_option maxRecDepth 100000 in
theorem fr_RH_best_0_J111 {v1 : Int32} {v2 : Int32} {v3 : Int32} {v4 : Int32} {v5 : Int32} {v6 : Int32} {σ : xS} {o : (Int32 × Int32 × Int32 × Int32 × Int32 × xS) ⊕ (Int32 × Int32 × Int32 × Int32 × Int32 × xS)} (h : f_RH_best_0_J111 v1 v2 v3 v4 v5 v6 σ = some o) : x_frO [] (fun a => a.2.2.2.2.2) (fun b => b.2.2.2.2.2) σ o := by
  unfold f_RH_best_0_J111 at h
  try dsimp only at h
  obtain ⟨q1, q1h, h⟩ := x_bind h
  try dsimp only at h
  have q1f := fr_Tr_mostOff_49 q1h
  refine x_iteC h (fun h => ?_) (fun h => ?_)
  · skip
    cases h
    exact x_frO.a5 (x_fr.trans x_fr.rf (x_fr.su q1f rfl))
  · skip
    refine x_iteC h (fun h => ?_) (fun h => ?_)
    · skip
      cases h
      exact x_frO.a5 (x_fr.trans x_fr.rf (x_fr.su q1f rfl))
    · skip
      cases h
      exact x_frO.a5 (x_fr.trans x_fr.rf (x_fr.su q1f rfl))
set_option maxHeartbeats 4000000 in
set_option maxRecDepth 100000 in
theorem fr_RH_best_0_L47 {v1 : Int32} {a : Int32 × Int32 × Int32 × Int32 × Int32 × xS} {o : (Int32 × Int32 × Int32 × Int32 × Int32 × xS) ⊕ (Int32 × Int32 × Int32 × Int32 × Int32 × xS)} (h : f_RH_best_0_L47 v1 a = some o) : x_frO [(17, 99999), (18, 99999), (50, 99999), (53, 99999), (54, 99999)] (fun a => a.2.2.2.2.2) (fun b => b.2.2.2.2.2) a.2.2.2.2.2 o := by
  unfold f_RH_best_0_L47 at h
  try dsimp only at h
  refine x_iteC h (fun h => ?_) (fun h => ?_)
  · skip
    cases h
    exact x_frO.b x_fr.rf
  · skip
    obtain ⟨q7, q7h, h⟩ := x_bind h
    try dsimp only at h
    have q7f := fr_Tr_follow_49_7 q7h
    obtain ⟨q8, q8h, h⟩ := x_bind h
    try dsimp only at h
    have q8f := fr_Tr_sharpBy_49 q8h
    refine x_iteC h (fun h => ?_) (fun h => ?_)
    · skip
      exact x_frO.tr (x_fr.trans (x_fr.trans (x_frI (p := 50) (k := 4) rfl x_fr.rf) (x_fr.su q7f rfl)) (x_fr.su q8f rfl)) (x_frO.su (fr_RH_best_0_J111 h) rfl)
    · skip
      exact x_frO.tr (x_fr.trans (x_fr.trans (x_frI (p := 50) (k := 4) rfl x_fr.rf) (x_fr.su q7f rfl)) (x_fr.su q8f rfl)) (x_frO.su (fr_RH_best_0_J111 h) rfl)
set_option maxHeartbeats 4000000 in
set_option maxRecDepth 100000 in
theorem fr_RH_best_0 {v1 : Int32} {σ : xS} {r : (Int32 ⊕ Nat) × xS} (h : f_RH_best_0 v1 σ = some r) : x_fr [(0, 9), (17, 99999), (18, 99999), (49, 1), (49, 2), (49, 3), (49, 4), (49, 5), (50, 99999), (51, 99999), (52, 99999), (53, 99999), (54, 99999)] σ r.2 := by
  unfold f_RH_best_0 at h
  try dsimp only at h
  refine x_iteC h (fun h => ?_) (fun h => ?_)
  · skip
    cases h
    exact x_fr.rf
  · skip
    refine x_iteC h (fun h => ?_) (fun h => ?_)
    · skip
      obtain ⟨q10, q10h, h⟩ := x_bind h
      try dsimp only at h
      have q10f := fr_RH_takeSettings_0 q10h
      obtain ⟨q11, q11h, h⟩ := x_bind h
      try dsimp only at h
      have q11f := fr_Tr_look_49_7 q11h
      obtain ⟨b12, b12h, h⟩ := x_bind h
      try dsimp only at h
      have b12f := x_itF (sA := (fun a => a.2.2.2.2.2)) (sB := (fun b => b.2.2.2.2.2)) (fun a o h => fr_RH_best_0_L47 h) _ _ _ b12h
      refine x_iteC h (fun h => ?_) (fun h => ?_)
      · skip
        cases h
        exact (x_fr.trans (x_fr.trans (x_fr.trans x_fr.rf (x_fr.su q10f rfl)) (x_fr.su q11f rfl)) (x_fr.su b12f rfl))
      · skip
        refine x_iteC h (fun h => ?_) (fun h => ?_)
        · skip
          cases h
          exact (x_fr.trans (x_fr.trans (x_fr.trans x_fr.rf (x_fr.su q10f rfl)) (x_fr.su q11f rfl)) (x_fr.su b12f rfl))
        · skip
          refine x_iteC h (fun h => ?_) (fun h => ?_)
          · skip
            cases h
            exact (x_fr.trans (x_fr.trans (x_fr.trans x_fr.rf (x_fr.su q10f rfl)) (x_fr.su q11f rfl)) (x_fr.su b12f rfl))
          · skip
            cases h
            exact (x_fr.trans (x_fr.trans (x_fr.trans x_fr.rf (x_fr.su q10f rfl)) (x_fr.su q11f rfl)) (x_fr.su b12f rfl))
    · skip
      cases h
      exact x_fr.rf
set_option maxHeartbeats 4000000 in
set_option maxRecDepth 100000 in
theorem fr_RH_outward {v0 : Int32} {σ : xS} {r : Int32 × xS} (h : f_RH_outward v0 σ = some r) : x_fr [] σ r.2 := by
  unfold f_RH_outward at h
  try dsimp only at h
  refine x_iteC h (fun h => ?_) (fun h => ?_)
  · skip
    cases h
    exact x_fr.rf
  · skip
    cases h
    exact x_fr.rf
set_option maxHeartbeats 4000000 in
set_option maxRecDepth 100000 in
theorem fr_RH_foretell_0_L41 {v1 : Int32} {a : Int32 × Int32 × Int32 × xS} {o : (Int32 × Int32 × Int32 × xS) ⊕ (Int32 × Int32 × Int32 × xS)} (h : f_RH_foretell_0_L41 v1 a = some o) : x_frO [(17, 99999), (18, 99999), (49, 4), (53, 99999), (54, 99999)] (fun a => a.2.2.2) (fun b => b.2.2.2) a.2.2.2 o := by
  unfold f_RH_foretell_0_L41 at h
  try dsimp only at h
  refine x_iteC h (fun h => ?_) (fun h => ?_)
  · skip
    cases h
    exact x_frO.b x_fr.rf
  · skip
    obtain ⟨q1, q1h, h⟩ := x_bind h
    try dsimp only at h
    have q1f := fr_RH_outward q1h
    obtain ⟨q4, q4h, h⟩ := x_bind h
    try dsimp only at h
    have q4f := fr_Tr_follow_49_7 q4h
    obtain ⟨q5, q5h, h⟩ := x_bind h
    try dsimp only at h
    have q5f := fr_Tr_sharpBy_49 q5h
    refine x_iteC h (fun h => ?_) (fun h => ?_)
    · skip
      cases h
      exact x_frO.a3 (x_fr.trans (x_fr.trans (x_frI (p := 49) (k := 4) rfl (x_fr.trans x_fr.rf (x_fr.su q1f rfl))) (x_fr.su q4f rfl)) (x_fr.su q5f rfl))
    · skip
      cases h
      exact x_frO.a3 (x_fr.trans (x_fr.trans (x_frI (p := 49) (k := 4) rfl (x_fr.trans x_fr.rf (x_fr.su q1f rfl))) (x_fr.su q4f rfl)) (x_fr.su q5f rfl))
set_option maxHeartbeats 4000000 in
set_option maxRecDepth 100000 in
theorem fr_RH_foretell_0 {v1 : Int32} {σ : xS} {r : (Int32 ⊕ Nat) × xS} (h : f_RH_foretell_0 v1 σ = some r) : x_fr [(0, 9), (17, 99999), (18, 99999), (49, 1), (49, 2), (49, 3), (49, 4), (49, 5), (50, 99999), (51, 99999), (52, 99999), (53, 99999), (54, 99999)] σ r.2 := by
  unfold f_RH_foretell_0 at h
  try dsimp only at h
  refine x_iteC h (fun h => ?_) (fun h => ?_)
  · skip
    cases h
    exact x_fr.rf
  · skip
    refine x_iteC h (fun h => ?_) (fun h => ?_)
    · skip
      obtain ⟨q9, q9h, h⟩ := x_bind h
      try dsimp only at h
      have q9f := fr_RH_takeSettings_0 q9h
      obtain ⟨q10, q10h, h⟩ := x_bind h
      try dsimp only at h
      have q10f := fr_Tr_look_49_7 q10h
      obtain ⟨b11, b11h, h⟩ := x_bind h
      try dsimp only at h
      have b11f := x_itF (sA := (fun a => a.2.2.2)) (sB := (fun b => b.2.2.2)) (fun a o h => fr_RH_foretell_0_L41 h) _ _ _ b11h
      refine x_iteC h (fun h => ?_) (fun h => ?_)
      · skip
        cases h
        exact (x_fr.trans (x_fr.trans (x_fr.trans x_fr.rf (x_fr.su q9f rfl)) (x_fr.su q10f rfl)) (x_fr.su b11f rfl))
      · skip
        cases h
        exact (x_fr.trans (x_fr.trans (x_fr.trans x_fr.rf (x_fr.su q9f rfl)) (x_fr.su q10f rfl)) (x_fr.su b11f rfl))
    · skip
      cases h
      exact x_fr.rf
set_option maxHeartbeats 4000000 in
set_option maxRecDepth 100000 in
theorem fr_RH_holes_0_L27 {v1 : Int32} {a : Int32 × xS} {o : (((Int32 ⊕ Nat) × xS) ⊕ (Int32 × xS)) ⊕ (Int32 × xS)} (h : f_RH_holes_0_L27 v1 a = some o) : x_frO [] (fun a => a.2) (fun b => match b with | .inl q => q.2 | .inr e => e.2) a.2 o := by
  unfold f_RH_holes_0_L27 at h
  try dsimp only at h
  refine x_iteC h (fun h => ?_) (fun h => ?_)
  · skip
    cases h
    exact x_frO.b x_fr.rf
  · skip
    obtain ⟨q1, q1h, h⟩ := x_bind h
    try dsimp only at h
    have q1f := fr_Tr_sharpBy_49 q1h
    refine x_iteC h (fun h => ?_) (fun h => ?_)
    · skip
      cases h
      exact x_frO.a1 (x_fr.trans x_fr.rf (x_fr.su q1f rfl))
    · skip
      cases h
      exact x_frO.b (x_fr.trans x_fr.rf (x_fr.su q1f rfl))
set_option maxHeartbeats 4000000 in
set_option maxRecDepth 100000 in
theorem fr_RH_holes_0 {v1 : Int32} {σ : xS} {r : (Int32 ⊕ Nat) × xS} (h : f_RH_holes_0 v1 σ = some r) : x_fr [(0, 9), (17, 99999), (18, 99999), (49, 1), (49, 2), (49, 3), (49, 4), (49, 5), (50, 99999), (51, 99999), (52, 99999), (53, 99999), (54, 99999)] σ r.2 := by
  unfold f_RH_holes_0 at h
  try dsimp only at h
  refine x_iteC h (fun h => ?_) (fun h => ?_)
  · skip
    cases h
    exact x_fr.rf
  · skip
    refine x_iteC h (fun h => ?_) (fun h => ?_)
    · skip
      obtain ⟨q3, q3h, h⟩ := x_bind h
      try dsimp only at h
      have q3f := fr_RH_walkAsSet_0 q3h
      obtain ⟨b4, b4h, h⟩ := x_bind h
      try dsimp only at h
      have b4f := x_itF (sA := (fun a => a.2)) (sB := (fun b => match b with | .inl q => q.2 | .inr e => e.2)) (fun a o h => fr_RH_holes_0_L27 h) _ _ _ b4h
      cases b4 with
      | inl b4r =>
        try dsimp only at h
        cases h
        exact (x_fr.trans (x_fr.trans x_fr.rf (x_fr.su q3f rfl)) (x_fr.su b4f rfl))
      | inr b4e =>
        try dsimp only at h
        cases h
        exact (x_fr.trans (x_fr.trans x_fr.rf (x_fr.su q3f rfl)) (x_fr.su b4f rfl))
    · skip
      cases h
      exact x_fr.rf
set_option maxHeartbeats 4000000 in
set_option maxRecDepth 100000 in
theorem fr_RH_light_0_L46 {v1 : Int32} {v2 : Int32} {a : Int32 × Int64 × Int64 × Int32 × xS} {o : (Int32 × Int64 × Int64 × Int32 × xS) ⊕ (Int32 × Int64 × Int64 × Int32 × xS)} (h : f_RH_light_0_L46 v1 v2 a = some o) : x_frO [] (fun a => a.2.2.2.2) (fun b => b.2.2.2.2) a.2.2.2.2 o := by
  unfold f_RH_light_0_L46 at h
  try dsimp only at h
  refine x_iteC h (fun h => ?_) (fun h => ?_)
  · skip
    cases h
    exact x_frO.b x_fr.rf
  · skip
    obtain ⟨q1, q1h, h⟩ := x_bind h
    try dsimp only at h
    have q1f := fr_Tr_sharpBy_49 q1h
    refine x_iteC h (fun h => ?_) (fun h => ?_)
    · skip
      cases h
      exact x_frO.a4 (x_fr.trans x_fr.rf (x_fr.su q1f rfl))
    · skip
      refine x_iteC h (fun h => ?_) (fun h => ?_)
      · skip
        cases h
        exact x_frO.a4 (x_fr.trans x_fr.rf (x_fr.su q1f rfl))
      · skip
        refine x_iteC h (fun h => ?_) (fun h => ?_)
        · skip
          cases h
          exact x_frO.a4 (x_fr.trans x_fr.rf (x_fr.su q1f rfl))
        · skip
          cases h
          exact x_frO.a4 (x_fr.trans x_fr.rf (x_fr.su q1f rfl))
set_option maxHeartbeats 4000000 in
set_option maxRecDepth 100000 in
theorem fr_RH_light_0 {v1 : Int32} {v2 : Int32} {σ : xS} {r : (Int32 ⊕ Nat) × xS} (h : f_RH_light_0 v1 v2 σ = some r) : x_fr [(0, 9), (17, 99999), (18, 99999), (49, 1), (49, 2), (49, 3), (49, 4), (49, 5), (50, 99999), (51, 99999), (52, 99999), (53, 99999), (54, 99999)] σ r.2 := by
  unfold f_RH_light_0 at h
  try dsimp only at h
  refine x_iteC h (fun h => ?_) (fun h => ?_)
  · skip
    cases h
    exact x_fr.rf
  · skip
    refine x_iteC h (fun h => ?_) (fun h => ?_)
    · skip
      cases h
      exact x_fr.rf
    · skip
      refine x_iteC h (fun h => ?_) (fun h => ?_)
      · skip
        cases h
        exact x_fr.rf
      · skip
        refine x_iteC h (fun h => ?_) (fun h => ?_)
        · skip
          obtain ⟨q8, q8h, h⟩ := x_bind h
          try dsimp only at h
          have q8f := fr_RH_walkAsSet_0 q8h
          obtain ⟨b11, b11h, h⟩ := x_bind h
          try dsimp only at h
          have b11f := x_itF (sA := (fun a => a.2.2.2.2)) (sB := (fun b => b.2.2.2.2)) (fun a o h => fr_RH_light_0_L46 h) _ _ _ b11h
          cases h
          exact (x_fr.trans (x_fr.trans x_fr.rf (x_fr.su q8f rfl)) (x_fr.su b11f rfl))
        · skip
          cases h
          exact x_fr.rf
set_option maxHeartbeats 4000000 in
set_option maxRecDepth 100000 in
theorem fr_RH_both_0_L4 {a : Int32 × Int32 × xS} {o : (Int32 × Int32 × xS) ⊕ (Int32 × Int32 × xS)} (h : f_RH_both_0_L4 a = some o) : x_frO [] (fun a => a.2.2) (fun b => b.2.2) a.2.2 o := by
  unfold f_RH_both_0_L4 at h
  try dsimp only at h
  refine x_iteC h (fun h => ?_) (fun h => ?_)
  · skip
    cases h
    exact x_frO.b x_fr.rf
  · skip
    obtain ⟨q1, q1h, h⟩ := x_bind h
    try dsimp only at h
    have q1f := fr_Sc_herIn_7 q1h
    obtain ⟨q3, q3h, h⟩ := x_bind h
    try dsimp only at h
    have q3f := fr_Sc_placeOf_7 q3h
    obtain ⟨q5, q5h, h⟩ := x_bind h
    try dsimp only at h
    have q5f := fr_Sc_turnOf_7 q5h
    obtain ⟨q6, q6h, h⟩ := x_bind h
    try dsimp only at h
    have q6f := fr_Sc_turnOf_7 q6h
    cases h
    exact x_frO.a2 (x_fr.trans (x_fr.trans (x_fr.trans (x_fr.trans x_fr.rf (x_fr.su q1f rfl)) (x_fr.su q3f rfl)) (x_fr.su q5f rfl)) (x_fr.su q6f rfl))
set_option maxHeartbeats 4000000 in
set_option maxRecDepth 100000 in
theorem fr_RH_both_0 {σ : xS} {r : Int32 × xS} (h : f_RH_both_0 σ = some r) : x_fr [] σ r.2 := by
  unfold f_RH_both_0 at h
  try dsimp only at h
  obtain ⟨b9, b9h, h⟩ := x_bind h
  try dsimp only at h
  have b9f := x_itF (sA := (fun a => a.2.2)) (sB := (fun b => b.2.2)) (fun a o h => fr_RH_both_0_L4 h) _ _ _ b9h
  cases h
  exact (x_fr.trans x_fr.rf (x_fr.su b9f rfl))
set_option maxHeartbeats 4000000 in
set_option maxRecDepth 100000 in
theorem fr_Ch_pickedInches_55_J19 {y0 : Int32} {σ : xS} {r : Int32 × xS} (h : f_Ch_pickedInches_55_J19 y0 σ = some r) : x_fr [] σ r.2 := by
  unfold f_Ch_pickedInches_55_J19 at h
  try dsimp only at h
  refine x_iteC h (fun h => ?_) (fun h => ?_)
  · skip
    cases h
    exact x_fr.rf
  · skip
    refine x_iteC h (fun h => ?_) (fun h => ?_)
    · skip
      cases h
      exact x_fr.rf
    · skip
      obtain ⟨-, h⟩ := x_ifn h
      cases h
      exact x_fr.rf
set_option maxHeartbeats 4000000 in
set_option maxRecDepth 100000 in
theorem fr_Ch_pickedInches_55_J18 {σ : xS} {r : Int32 × xS} (h : f_Ch_pickedInches_55_J18 σ = some r) : x_fr [] σ r.2 := by
  unfold f_Ch_pickedInches_55_J18 at h
  try dsimp only at h
  exact x_fr.trans x_fr.rf (x_fr.su (fr_Ch_pickedInches_55_J19 h) rfl)
set_option maxHeartbeats 4000000 in
set_option maxRecDepth 100000 in
theorem fr_Ch_pickedInches_55 {v1 : Int32} {σ : xS} {r : Int32 × xS} (h : f_Ch_pickedInches_55 v1 σ = some r) : x_fr [] σ r.2 := by
  unfold f_Ch_pickedInches_55 at h
  try dsimp only at h
  refine x_iteC h (fun h => ?_) (fun h => ?_)
  · skip
    exact x_fr.trans x_fr.rf (x_fr.su (fr_Ch_pickedInches_55_J18 h) rfl)
  · skip
    refine x_iteC h (fun h => ?_) (fun h => ?_)
    · skip
      exact x_fr.trans x_fr.rf (x_fr.su (fr_Ch_pickedInches_55_J18 h) rfl)
    · skip
      obtain ⟨-, h⟩ := x_ifn h
      exact x_fr.trans x_fr.rf (x_fr.su (fr_Ch_pickedInches_55_J19 h) rfl)
set_option maxHeartbeats 4000000 in
set_option maxRecDepth 100000 in
theorem fr_Ch_putPicked_55_49_L7 {v2 : Int32} {a : Int32 × xS} {o : (Int32 × xS) ⊕ (Int32 × xS)} (h : f_Ch_putPicked_55_49_L7 v2 a = some o) : x_frO [(50, 99999)] (fun a => a.2) (fun b => b.2) a.2 o := by
  unfold f_Ch_putPicked_55_49_L7 at h
  try dsimp only at h
  refine x_iteC h (fun h => ?_) (fun h => ?_)
  · skip
    cases h
    exact x_frO.b x_fr.rf
  · skip
    refine x_iteC h (fun h => ?_) (fun h => ?_)
    · skip
      cases h
      exact x_frO.b x_fr.rf
    · skip
      obtain ⟨q1, q1h, h⟩ := x_bind h
      try dsimp only at h
      have q1f := fr_Ch_pickedInches_55 q1h
      obtain ⟨-, h⟩ := x_ifn h
      cases h
      exact x_frO.a1 (x_frI (p := 50) rfl (x_fr.trans x_fr.rf (x_fr.su q1f rfl)))
set_option maxHeartbeats 4000000 in
set_option maxRecDepth 100000 in
theorem fr_Ch_putPicked_55_49 {v2 : Int32} {σ : xS} {r : Unit × xS} (h : f_Ch_putPicked_55_49 v2 σ = some r) : x_fr [(49, 1), (50, 99999)] σ r.2 := by
  unfold f_Ch_putPicked_55_49 at h
  try dsimp only at h
  obtain ⟨b5, b5h, h⟩ := x_bind h
  try dsimp only at h
  have b5f := x_itF (sA := (fun a => a.2)) (sB := (fun b => b.2)) (fun a o h => fr_Ch_putPicked_55_49_L7 h) _ _ _ b5h
  cases h
  exact (x_fr.trans (x_frI (p := 49) (k := 1) rfl x_fr.rf) (x_fr.su b5f rfl))
set_option maxHeartbeats 4000000 in
set_option maxRecDepth 100000 in
theorem fr_Ch_pickNext_55_L41 {v1 : Int32} {a : Int32 × Int32 × xS} {o : (Int32 × Int32 × xS) ⊕ (Int32 × Int32 × xS)} (h : f_Ch_pickNext_55_L41 v1 a = some o) : x_frO [(57, 99999)] (fun a => a.2.2) (fun b => b.2.2) a.2.2 o := by
  unfold f_Ch_pickNext_55_L41 at h
  try dsimp only at h
  refine x_iteC h (fun h => ?_) (fun h => ?_)
  · skip
    cases h
    exact x_frO.b x_fr.rf
  · skip
    refine x_iteC h (fun h => ?_) (fun h => ?_)
    · skip
      cases h
      exact x_frO.b x_fr.rf
    · skip
      obtain ⟨-, h⟩ := x_ifn h
      cases h
      exact x_frO.a2 (x_frI (p := 57) rfl x_fr.rf)
set_option maxHeartbeats 4000000 in
set_option maxRecDepth 100000 in
theorem fr_Ch_pickNext_55_L8 {v1 : Int32} {a : Int32 × xS} {o : ((Int32 × xS) ⊕ (Int32 × xS)) ⊕ (Int32 × xS)} (h : f_Ch_pickNext_55_L8 v1 a = some o) : x_frO [(57, 99999)] (fun a => a.2) (fun b => match b with | .inl q => q.2 | .inr e => e.2) a.2 o := by
  unfold f_Ch_pickNext_55_L8 at h
  try dsimp only at h
  refine x_iteC h (fun h => ?_) (fun h => ?_)
  · skip
    cases h
    exact x_frO.b x_fr.rf
  · skip
    obtain ⟨-, h⟩ := x_ifn h
    refine x_iteC h (fun h => ?_) (fun h => ?_)
    · skip
      cases h
      exact x_frO.a1 x_fr.rf
    · skip
      obtain ⟨-, h⟩ := x_ifn h
      obtain ⟨b6, b6h, h⟩ := x_bind h
      try dsimp only at h
      have b6f := x_itF (sA := (fun a => a.2.2)) (sB := (fun b => b.2.2)) (fun a o h => fr_Ch_pickNext_55_L41 h) _ _ _ b6h
      cases h
      exact x_frO.b (x_fr.trans x_fr.rf (x_fr.su b6f rfl))
set_option maxHeartbeats 4000000 in
set_option maxRecDepth 100000 in
theorem fr_Ch_pickNext_55 {v1 : Int32} {σ : xS} {r : Int32 × xS} (h : f_Ch_pickNext_55 v1 σ = some r) : x_fr [(57, 99999)] σ r.2 := by
  unfold f_Ch_pickNext_55 at h
  try dsimp only at h
  obtain ⟨b8, b8h, h⟩ := x_bind h
  try dsimp only at h
  have b8f := x_itF (sA := (fun a => a.2)) (sB := (fun b => match b with | .inl q => q.2 | .inr e => e.2)) (fun a o h => fr_Ch_pickNext_55_L8 h) _ _ _ b8h
  cases b8 with
  | inl b8r =>
    try dsimp only at h
    cases h
    exact (x_fr.trans x_fr.rf (x_fr.su b8f rfl))
  | inr b8e =>
    try dsimp only at h
    cases h
    exact (x_fr.trans x_fr.rf (x_fr.su b8f rfl))
set_option maxHeartbeats 4000000 in
set_option maxRecDepth 100000 in
theorem fr_Ch_keepPicked_55_L7 {v1 : Int32} {a : Int32 × xS} {o : (Int32 × xS) ⊕ (Int32 × xS)} (h : f_Ch_keepPicked_55_L7 v1 a = some o) : x_frO [(58, 99999)] (fun a => a.2) (fun b => b.2) a.2 o := by
  unfold f_Ch_keepPicked_55_L7 at h
  try dsimp only at h
  refine x_iteC h (fun h => ?_) (fun h => ?_)
  · skip
    cases h
    exact x_frO.b x_fr.rf
  · skip
    refine x_iteC h (fun h => ?_) (fun h => ?_)
    · skip
      cases h
      exact x_frO.b x_fr.rf
    · skip
      obtain ⟨q1, q1h, h⟩ := x_bind h
      try dsimp only at h
      have q1f := fr_Ch_pickedInches_55 q1h
      obtain ⟨-, h⟩ := x_ifn h
      cases h
      exact x_frO.a1 (x_frI (p := 58) rfl (x_fr.trans x_fr.rf (x_fr.su q1f rfl)))
set_option maxHeartbeats 4000000 in
set_option maxRecDepth 100000 in
theorem fr_Ch_keepPicked_55 {v1 : Int32} {σ : xS} {r : Unit × xS} (h : f_Ch_keepPicked_55 v1 σ = some r) : x_fr [(55, 4), (58, 99999)] σ r.2 := by
  unfold f_Ch_keepPicked_55 at h
  try dsimp only at h
  obtain ⟨b5, b5h, h⟩ := x_bind h
  try dsimp only at h
  have b5f := x_itF (sA := (fun a => a.2)) (sB := (fun b => b.2)) (fun a o h => fr_Ch_keepPicked_55_L7 h) _ _ _ b5h
  cases h
  exact (x_fr.trans (x_frI (p := 55) (k := 4) rfl x_fr.rf) (x_fr.su b5f rfl))
set_option maxHeartbeats 4000000 in
set_option maxRecDepth 100000 in
theorem fr_Ch_addPlace_55_L2 {v1 : Int32} {a : Int32 × xS} {o : ((Unit × xS) ⊕ (Int32 × xS)) ⊕ (Int32 × xS)} (h : f_Ch_addPlace_55_L2 v1 a = some o) : x_frO [] (fun a => a.2) (fun b => match b with | .inl q => q.2 | .inr e => e.2) a.2 o := by
  unfold f_Ch_addPlace_55_L2 at h
  try dsimp only at h
  refine x_iteC h (fun h => ?_) (fun h => ?_)
  · skip
    cases h
    exact x_frO.b x_fr.rf
  · skip
    refine x_iteC h (fun h => ?_) (fun h => ?_)
    · skip
      cases h
      exact x_frO.b x_fr.rf
    · skip
      obtain ⟨-, h⟩ := x_ifn h
      refine x_iteC h (fun h => ?_) (fun h => ?_)
      · skip
        cases h
        exact x_frO.b x_fr.rf
      · skip
        cases h
        exact x_frO.a1 x_fr.rf
set_option maxHeartbeats 4000000 in
set_option maxRecDepth 100000 in
theorem fr_Ch_addPlace_55_J36 {v1 : Int32} {σ : xS} {r : Unit × xS} (h : f_Ch_addPlace_55_J36 v1 σ = some r) : x_fr [(55, 1), (56, 99999)] σ r.2 := by
  unfold f_Ch_addPlace_55_J36 at h
  try dsimp only at h
  refine x_iteC h (fun h => ?_) (fun h => ?_)
  · skip
    cases h
    exact x_fr.rf
  · skip
    obtain ⟨-, h⟩ := x_ifn h
    cases h
    exact (x_frI (p := 55) (k := 1) rfl (x_frI (p := 56) rfl x_fr.rf))
set_option maxHeartbeats 4000000 in
set_option maxRecDepth 100000 in
theorem fr_Ch_addPlace_55 {v1 : Int32} {σ : xS} {r : Unit × xS} (h : f_Ch_addPlace_55 v1 σ = some r) : x_fr [(55, 1), (56, 99999)] σ r.2 := by
  unfold f_Ch_addPlace_55 at h
  try dsimp only at h
  obtain ⟨b4, b4h, h⟩ := x_bind h
  try dsimp only at h
  have b4f := x_itF (sA := (fun a => a.2)) (sB := (fun b => match b with | .inl q => q.2 | .inr e => e.2)) (fun a o h => fr_Ch_addPlace_55_L2 h) _ _ _ b4h
  cases b4 with
  | inl b4r =>
    try dsimp only at h
    cases h
    exact (x_fr.trans x_fr.rf (x_fr.su b4f rfl))
  | inr b4e =>
    try dsimp only at h
    exact x_fr.trans (x_fr.trans x_fr.rf (x_fr.su b4f rfl)) (x_fr.su (fr_Ch_addPlace_55_J36 h) rfl)
set_option maxHeartbeats 4000000 in
set_option maxRecDepth 100000 in
theorem fr_Ch_findPlaces_55_7_L15 {a : Int32 × xS} {o : (Int32 × xS) ⊕ (Int32 × xS)} (h : f_Ch_findPlaces_55_7_L15 a = some o) : x_frO [(55, 1), (56, 99999)] (fun a => a.2) (fun b => b.2) a.2 o := by
  unfold f_Ch_findPlaces_55_7_L15 at h
  try dsimp only at h
  refine x_iteC h (fun h => ?_) (fun h => ?_)
  · skip
    cases h
    exact x_frO.b x_fr.rf
  · skip
    refine x_iteC h (fun h => ?_) (fun h => ?_)
    · skip
      cases h
      exact x_frO.b x_fr.rf
    · skip
      obtain ⟨-, h⟩ := x_ifn h
      obtain ⟨q1, q1h, h⟩ := x_bind h
      try dsimp only at h
      have q1f := fr_Ch_addPlace_55 q1h
      cases h
      exact x_frO.a1 (x_fr.trans x_fr.rf (x_fr.su q1f rfl))
set_option maxHeartbeats 4000000 in
set_option maxRecDepth 100000 in
theorem fr_Ch_findPlaces_55_7 {σ : xS} {r : Unit × xS} (h : f_Ch_findPlaces_55_7 σ = some r) : x_fr [(55, 1), (56, 99999)] σ r.2 := by
  unfold f_Ch_findPlaces_55_7 at h
  try dsimp only at h
  obtain ⟨q4, q4h, h⟩ := x_bind h
  try dsimp only at h
  have q4f := fr_Ch_addPlace_55 q4h
  obtain ⟨b5, b5h, h⟩ := x_bind h
  try dsimp only at h
  have b5f := x_itF (sA := (fun a => a.2)) (sB := (fun b => b.2)) (fun a o h => fr_Ch_findPlaces_55_7_L15 h) _ _ _ b5h
  cases h
  exact (x_fr.trans (x_fr.trans (x_frI (p := 55) (k := 1) rfl x_fr.rf) (x_fr.su q4f rfl)) (x_fr.su b5f rfl))
set_option maxHeartbeats 4000000 in
set_option maxRecDepth 100000 in
theorem fr_Ch_pickFirst_55_L12 {v1 : Int32} {a : Int32 × xS} {o : (Int32 × xS) ⊕ (Int32 × xS)} (h : f_Ch_pickFirst_55_L12 v1 a = some o) : x_frO [(57, 99999)] (fun a => a.2) (fun b => b.2) a.2 o := by
  unfold f_Ch_pickFirst_55_L12 at h
  try dsimp only at h
  refine x_iteC h (fun h => ?_) (fun h => ?_)
  · skip
    cases h
    exact x_frO.b x_fr.rf
  · skip
    refine x_iteC h (fun h => ?_) (fun h => ?_)
    · skip
      cases h
      exact x_frO.b x_fr.rf
    · skip
      obtain ⟨-, h⟩ := x_ifn h
      cases h
      exact x_frO.a1 (x_frI (p := 57) rfl x_fr.rf)
set_option maxHeartbeats 4000000 in
set_option maxRecDepth 100000 in
theorem fr_Ch_pickFirst_55 {v1 : Int32} {σ : xS} {r : Int32 × xS} (h : f_Ch_pickFirst_55 v1 σ = some r) : x_fr [(57, 99999)] σ r.2 := by
  unfold f_Ch_pickFirst_55 at h
  try dsimp only at h
  refine x_iteC h (fun h => ?_) (fun h => ?_)
  · skip
    obtain ⟨b3, b3h, h⟩ := x_bind h
    try dsimp only at h
    have b3f := x_itF (sA := (fun a => a.2)) (sB := (fun b => b.2)) (fun a o h => fr_Ch_pickFirst_55_L12 h) _ _ _ b3h
    cases h
    exact (x_fr.trans x_fr.rf (x_fr.su b3f rfl))
  · skip
    cases h
    exact x_fr.rf
set_option maxHeartbeats 4000000 in
set_option maxRecDepth 100000 in
theorem fr_RH_marks_0_L51 {v1 : Int32} {a : Int32 × Int32 × Int32 × xS} {o : (Int32 × Int32 × Int32 × xS) ⊕ (Int32 × Int32 × Int32 × xS)} (h : f_RH_marks_0_L51 v1 a = some o) : x_frO [(0, 9), (17, 99999), (18, 99999), (49, 1), (49, 2), (49, 3), (49, 4), (49, 5), (50, 99999), (51, 99999), (52, 99999), (53, 99999), (54, 99999), (55, 4), (57, 99999), (58, 99999)] (fun a => a.2.2.2) (fun b => b.2.2.2) a.2.2.2 o := by
  unfold f_RH_marks_0_L51 at h
  try dsimp only at h
  refine x_iteC h (fun h => ?_) (fun h => ?_)
  · skip
    cases h
    exact x_frO.b x_fr.rf
  · skip
    refine x_iteC h (fun h => ?_) (fun h => ?_)
    · skip
      cases h
      exact x_frO.b x_fr.rf
    · skip
      obtain ⟨q1, q1h, h⟩ := x_bind h
      try dsimp only at h
      have q1f := fr_RH_takeSettings_0 q1h
      obtain ⟨q2, q2h, h⟩ := x_bind h
      try dsimp only at h
      have q2f := fr_Ch_putPicked_55_49 q2h
      obtain ⟨q3, q3h, h⟩ := x_bind h
      try dsimp only at h
      have q3f := fr_RH_sharpAsTried_0 q3h
      refine x_iteC h (fun h => ?_) (fun h => ?_)
      · skip
        obtain ⟨q5, q5h, h⟩ := x_bind h
        try dsimp only at h
        have q5f := fr_Ch_pickNext_55 q5h
        cases h
        exact x_frO.a3 (x_fr.trans (x_fr.trans (x_fr.trans (x_fr.trans x_fr.rf (x_fr.su q1f rfl)) (x_fr.su q2f rfl)) (x_fr.su q3f rfl)) (x_fr.su q5f rfl))
      · skip
        obtain ⟨q8, q8h, h⟩ := x_bind h
        try dsimp only at h
        have q8f := fr_Ch_keepPicked_55 q8h
        obtain ⟨q9, q9h, h⟩ := x_bind h
        try dsimp only at h
        have q9f := fr_Ch_pickNext_55 q9h
        cases h
        exact x_frO.a3 (x_fr.trans (x_fr.trans (x_fr.trans (x_fr.trans (x_fr.trans x_fr.rf (x_fr.su q1f rfl)) (x_fr.su q2f rfl)) (x_fr.su q3f rfl)) (x_fr.su q8f rfl)) (x_fr.su q9f rfl))
set_option maxHeartbeats 4000000 in
set_option maxRecDepth 100000 in
theorem fr_RH_marks_0 {v1 : Int32} {σ : xS} {r : (Int32 ⊕ Nat) × xS} (h : f_RH_marks_0 v1 σ = some r) : x_fr [(0, 9), (17, 99999), (18, 99999), (49, 1), (49, 2), (49, 3), (49, 4), (49, 5), (50, 99999), (51, 99999), (52, 99999), (53, 99999), (54, 99999), (55, 1), (55, 4), (56, 99999), (57, 99999), (58, 99999)] σ r.2 := by
  unfold f_RH_marks_0 at h
  try dsimp only at h
  refine x_iteC h (fun h => ?_) (fun h => ?_)
  · skip
    cases h
    exact x_fr.rf
  · skip
    refine x_iteC h (fun h => ?_) (fun h => ?_)
    · skip
      obtain ⟨q12, q12h, h⟩ := x_bind h
      try dsimp only at h
      have q12f := fr_Ch_findPlaces_55_7 q12h
      obtain ⟨q13, q13h, h⟩ := x_bind h
      try dsimp only at h
      have q13f := fr_Ch_pickFirst_55 q13h
      refine x_iteC h (fun h => ?_) (fun h => ?_)
      · skip
        cases h
        exact (x_fr.trans (x_fr.trans x_fr.rf (x_fr.su q12f rfl)) (x_fr.su q13f rfl))
      · skip
        obtain ⟨b14, b14h, h⟩ := x_bind h
        try dsimp only at h
        have b14f := x_itF (sA := (fun a => a.2.2.2)) (sB := (fun b => b.2.2.2)) (fun a o h => fr_RH_marks_0_L51 h) _ _ _ b14h
        cases h
        exact (x_fr.trans (x_fr.trans (x_fr.trans x_fr.rf (x_fr.su q12f rfl)) (x_fr.su q13f rfl)) (x_fr.su b14f rfl))
    · skip
      cases h
      exact x_fr.rf
set_option maxHeartbeats 4000000 in
set_option maxRecDepth 100000 in
theorem fr_RH_kept_0 {v1 : Int32} {σ : xS} {r : (Int32 ⊕ Nat) × xS} (h : f_RH_kept_0 v1 σ = some r) : x_fr [] σ r.2 := by
  unfold f_RH_kept_0 at h
  try dsimp only at h
  refine x_iteC h (fun h => ?_) (fun h => ?_)
  · skip
    cases h
    exact x_fr.rf
  · skip
    refine x_iteC h (fun h => ?_) (fun h => ?_)
    · skip
      cases h
      exact x_fr.rf
    · skip
      refine x_iteC h (fun h => ?_) (fun h => ?_)
      · skip
        obtain ⟨-, h⟩ := x_ifn h
        cases h
        exact x_fr.rf
      · skip
        cases h
        exact x_fr.rf
set_option maxHeartbeats 4000000 in
set_option maxRecDepth 100000 in
theorem fr_RH_sharpLate_0 {v1 : Int32} {σ : xS} {r : Int32 × xS} (h : f_RH_sharpLate_0 v1 σ = some r) : x_fr [(0, 9), (17, 99999), (18, 99999), (49, 1), (49, 2), (49, 3), (49, 4), (49, 5), (50, 99999), (51, 99999), (52, 99999), (53, 99999), (54, 99999)] σ r.2 := by
  unfold f_RH_sharpLate_0 at h
  try dsimp only at h
  obtain ⟨q1, q1h, h⟩ := x_bind h
  try dsimp only at h
  have q1f := fr_RH_takeSettings_0 q1h
  obtain ⟨q3, q3h, h⟩ := x_bind h
  try dsimp only at h
  have q3f := fr_RH_sharpAsTried_0 q3h
  cases h
  exact (x_fr.trans (x_frI (p := 49) (k := 2) rfl (x_fr.trans x_fr.rf (x_fr.su q1f rfl))) (x_fr.su q3f rfl))
set_option maxHeartbeats 4000000 in
set_option maxRecDepth 100000 in
theorem fr_RH_takes_0_J131 {v2 : Int32} {v3 : Int32} {v4 : Int32} {v5 : Int32} {v6 : Int32} {v8 : Int32} {v9 : Int32} {v10 : Int32} {v11 : Int32} {y0 : Int32} {y1 : Int32} {σ : xS} {o : (Int32 × Int32 × Int32 × Int32 × Int32 × xS) ⊕ (Int32 × Int32 × Int32 × Int32 × Int32 × xS)} (h : f_RH_takes_0_J131 v2 v3 v4 v5 v6 v8 v9 v10 v11 y0 y1 σ = some o) : x_frO [] (fun a => a.2.2.2.2.2) (fun b => b.2.2.2.2.2) σ o := by
  unfold f_RH_takes_0_J131 at h
  try dsimp only at h
  refine x_iteC h (fun h => ?_) (fun h => ?_)
  · skip
    cases h
    exact x_frO.a5 x_fr.rf
  · skip
    cases h
    exact x_frO.a5 x_fr.rf
set_option maxHeartbeats 4000000 in
set_option maxRecDepth 100000 in
theorem fr_RH_takes_0_L82 {v2 : Int32} {v3 : Int32} {v4 : Int32} {v5 : Int32} {a : Int32 × Int32 × Int32 × Int32 × Int32 × xS} {o : (Int32 × Int32 × Int32 × Int32 × Int32 × xS) ⊕ (Int32 × Int32 × Int32 × Int32 × Int32 × xS)} (h : f_RH_takes_0_L82 v2 v3 v4 v5 a = some o) : x_frO [(0, 9), (17, 99999), (18, 99999), (49, 1), (49, 2), (49, 3), (49, 4), (49, 5), (50, 99999), (51, 99999), (52, 99999), (53, 99999), (54, 99999)] (fun a => a.2.2.2.2.2) (fun b => b.2.2.2.2.2) a.2.2.2.2.2 o := by
  unfold f_RH_takes_0_L82 at h
  try dsimp only at h
  refine x_iteC h (fun h => ?_) (fun h => ?_)
  · skip
    cases h
    exact x_frO.b x_fr.rf
  · skip
    obtain ⟨-, h⟩ := x_ifn h
    obtain ⟨q7, q7h, h⟩ := x_bind h
    try dsimp only at h
    have q7f := fr_RH_sharpLate_0 q7h
    refine x_iteC h (fun h => ?_) (fun h => ?_)
    · skip
      exact x_frO.tr (x_fr.trans x_fr.rf (x_fr.su q7f rfl)) (x_frO.su (fr_RH_takes_0_J131 h) rfl)
    · skip
      exact x_frO.tr (x_fr.trans x_fr.rf (x_fr.su q7f rfl)) (x_frO.su (fr_RH_takes_0_J131 h) rfl)
set_option maxHeartbeats 4000000 in
set_option maxRecDepth 100000 in
theorem fr_RH_takes_0 {v1 : Int32} {v2 : Int32} {v3 : Int32} {v4 : Int32} {v5 : Int32} {σ : xS} {r : (Int32 ⊕ Nat) × xS} (h : f_RH_takes_0 v1 v2 v3 v4 v5 σ = some r) : x_fr [(0, 9), (17, 99999), (18, 99999), (49, 1), (49, 2), (49, 3), (49, 4), (49, 5), (50, 99999), (51, 99999), (52, 99999), (53, 99999), (54, 99999)] σ r.2 := by
  unfold f_RH_takes_0 at h
  try dsimp only at h
  refine x_iteC h (fun h => ?_) (fun h => ?_)
  · skip
    cases h
    exact x_fr.rf
  · skip
    refine x_iteC h (fun h => ?_) (fun h => ?_)
    · skip
      refine x_iteC h (fun h => ?_) (fun h => ?_)
      · skip
        cases h
        exact x_fr.rf
      · skip
        refine x_iteC h (fun h => ?_) (fun h => ?_)
        · skip
          cases h
          exact x_fr.rf
        · skip
          refine x_iteC h (fun h => ?_) (fun h => ?_)
          · skip
            cases h
            exact x_fr.rf
          · skip
            refine x_iteC h (fun h => ?_) (fun h => ?_)
            · skip
              cases h
              exact x_fr.rf
            · skip
              refine x_iteC h (fun h => ?_) (fun h => ?_)
              · skip
                cases h
                exact x_fr.rf
              · skip
                refine x_iteC h (fun h => ?_) (fun h => ?_)
                · skip
                  obtain ⟨b9, b9h, h⟩ := x_bind h
                  try dsimp only at h
                  have b9f := x_itF (sA := (fun a => a.2.2.2.2.2)) (sB := (fun b => b.2.2.2.2.2)) (fun a o h => fr_RH_takes_0_L82 h) _ _ _ b9h
                  refine x_iteC h (fun h => ?_) (fun h => ?_)
                  · skip
                    cases h
                    exact (x_fr.trans x_fr.rf (x_fr.su b9f rfl))
                  · skip
                    refine x_iteC h (fun h => ?_) (fun h => ?_)
                    · skip
                      cases h
                      exact (x_fr.trans x_fr.rf (x_fr.su b9f rfl))
                    · skip
                      cases h
                      exact (x_fr.trans x_fr.rf (x_fr.su b9f rfl))
                · skip
                  cases h
                  exact x_fr.rf
    · skip
      cases h
      exact x_fr.rf
set_option maxHeartbeats 4000000 in
set_option maxRecDepth 100000 in
theorem fr_Se_note_35 {v1 : Int32} {v2 : Int32} {σ : xS} {r : Int32 × xS} (h : f_Se_note_35 v1 v2 σ = some r) : x_fr [(35, 6), (39, 99999), (40, 99999)] σ r.2 := by
  unfold f_Se_note_35 at h
  try dsimp only at h
  refine x_iteC h (fun h => ?_) (fun h => ?_)
  · skip
    obtain ⟨-, h⟩ := x_ifn h
    refine x_iteC h (fun h => ?_) (fun h => ?_)
    · skip
      obtain ⟨-, h⟩ := x_ifn h
      cases h
      exact (x_frI (p := 35) (k := 6) rfl (x_frI (p := 40) rfl (x_frI (p := 39) rfl x_fr.rf)))
    · skip
      obtain ⟨-, h⟩ := x_ifn h
      cases h
      exact (x_frI (p := 35) (k := 6) rfl (x_frI (p := 40) rfl (x_frI (p := 39) rfl x_fr.rf)))
  · skip
    cases h
    exact x_fr.rf
set_option maxHeartbeats 4000000 in
set_option maxRecDepth 100000 in
theorem fr_RH_see_0 {v1 : Int32} {v2 : Int32} {σ : xS} {r : (Int32 ⊕ Nat) × xS} (h : f_RH_see_0 v1 v2 σ = some r) : x_fr [(35, 6), (39, 99999), (40, 99999), (59, 99999)] σ r.2 := by
  unfold f_RH_see_0 at h
  try dsimp only at h
  obtain ⟨q1, q1h, h⟩ := x_bind h
  try dsimp only at h
  have q1f := fr_RH_isTenth_0 q1h
  refine x_iteC h (fun h => ?_) (fun h => ?_)
  · skip
    cases h
    exact (x_fr.trans x_fr.rf (x_fr.su q1f rfl))
  · skip
    obtain ⟨q2, q2h, h⟩ := x_bind h
    try dsimp only at h
    have q2f := fr_Se_note_35 q2h
    refine x_iteC h (fun h => ?_) (fun h => ?_)
    · skip
      cases h
      exact (x_frI (p := 59) (k := 2) rfl (x_fr.trans (x_fr.trans x_fr.rf (x_fr.su q1f rfl)) (x_fr.su q2f rfl)))
    · skip
      cases h
      exact (x_fr.trans (x_fr.trans x_fr.rf (x_fr.su q1f rfl)) (x_fr.su q2f rfl))
set_option maxHeartbeats 4000000 in
set_option maxRecDepth 100000 in
theorem fr_Se_isFilmOf_35_49_L2 {a : Int32 × xS} {o : ((Int32 × xS) ⊕ (Int32 × xS)) ⊕ (Int32 × xS)} (h : f_Se_isFilmOf_35_49_L2 a = some o) : x_frO [] (fun a => a.2) (fun b => match b with | .inl q => q.2 | .inr e => e.2) a.2 o := by
  unfold f_Se_isFilmOf_35_49_L2 at h
  try dsimp only at h
  refine x_iteC h (fun h => ?_) (fun h => ?_)
  · skip
    cases h
    exact x_frO.b x_fr.rf
  · skip
    refine x_iteC h (fun h => ?_) (fun h => ?_)
    · skip
      cases h
      exact x_frO.b x_fr.rf
    · skip
      obtain ⟨-, h⟩ := x_ifn h
      obtain ⟨q1, q1h, h⟩ := x_bind h
      try dsimp only at h
      have q1f := fr_Tr_isSharp_49 q1h
      obtain ⟨-, h⟩ := x_ifn h
      refine x_iteC h (fun h => ?_) (fun h => ?_)
      · skip
        refine x_iteC h (fun h => ?_) (fun h => ?_)
        · skip
          cases h
          exact x_frO.a1 (x_fr.trans x_fr.rf (x_fr.su q1f rfl))
        · skip
          cases h
          exact x_frO.b (x_fr.trans x_fr.rf (x_fr.su q1f rfl))
      · skip
        refine x_iteC h (fun h => ?_) (fun h => ?_)
        · skip
          cases h
          exact x_frO.a1 (x_fr.trans x_fr.rf (x_fr.su q1f rfl))
        · skip
          cases h
          exact x_frO.b (x_fr.trans x_fr.rf (x_fr.su q1f rfl))
set_option maxHeartbeats 4000000 in
set_option maxRecDepth 100000 in
theorem fr_Se_isFilmOf_35_49 {σ : xS} {r : Int32 × xS} (h : f_Se_isFilmOf_35_49 σ = some r) : x_fr [] σ r.2 := by
  unfold f_Se_isFilmOf_35_49 at h
  try dsimp only at h
  obtain ⟨b4, b4h, h⟩ := x_bind h
  try dsimp only at h
  have b4f := x_itF (sA := (fun a => a.2)) (sB := (fun b => match b with | .inl q => q.2 | .inr e => e.2)) (fun a o h => fr_Se_isFilmOf_35_49_L2 h) _ _ _ b4h
  cases b4 with
  | inl b4r =>
    try dsimp only at h
    cases h
    exact (x_fr.trans x_fr.rf (x_fr.su b4f rfl))
  | inr b4e =>
    try dsimp only at h
    cases h
    exact (x_fr.trans x_fr.rf (x_fr.su b4f rfl))
set_option maxHeartbeats 4000000 in
set_option maxRecDepth 100000 in
theorem fr_RH_fitsFilm_0 {v1 : Int32} {v2 : Int32} {σ : xS} {r : Int32 × xS} (h : f_RH_fitsFilm_0 v1 v2 σ = some r) : x_fr [(0, 9), (17, 99999), (18, 99999), (49, 1), (49, 2), (49, 3), (49, 4), (49, 5), (50, 99999), (51, 99999), (52, 99999), (53, 99999), (54, 99999)] σ r.2 := by
  unfold f_RH_fitsFilm_0 at h
  try dsimp only at h
  obtain ⟨q1, q1h, h⟩ := x_bind h
  try dsimp only at h
  have q1f := fr_RH_takeSettings_0 q1h
  obtain ⟨q4, q4h, h⟩ := x_bind h
  try dsimp only at h
  have q4f := fr_Tr_walk_49_7 q4h
  obtain ⟨q5, q5h, h⟩ := x_bind h
  try dsimp only at h
  have q5f := fr_Se_isFilmOf_35_49 q5h
  obtain ⟨-, h⟩ := x_ift h
  cases h
  exact (x_fr.trans (x_fr.trans (x_frI (p := 49) (k := 2) rfl (x_frI (p := 50) (k := 4) rfl (x_fr.trans x_fr.rf (x_fr.su q1f rfl)))) (x_fr.su q4f rfl)) (x_fr.su q5f rfl))
set_option maxHeartbeats 4000000 in
set_option maxRecDepth 100000 in
theorem fr_RH_fits_0_L42 {v1 : Int32} {v4 : Int32} {a : Int32 × Int32 × Int32 × xS} {o : (Int32 × Int32 × Int32 × xS) ⊕ (Int32 × Int32 × Int32 × xS)} (h : f_RH_fits_0_L42 v1 v4 a = some o) : x_frO [(0, 9), (17, 99999), (18, 99999), (49, 1), (49, 2), (49, 3), (49, 4), (49, 5), (50, 99999), (51, 99999), (52, 99999), (53, 99999), (54, 99999)] (fun a => a.2.2.2) (fun b => b.2.2.2) a.2.2.2 o := by
  unfold f_RH_fits_0_L42 at h
  try dsimp only at h
  refine x_iteC h (fun h => ?_) (fun h => ?_)
  · skip
    cases h
    exact x_frO.b x_fr.rf
  · skip
    obtain ⟨q1, q1h, h⟩ := x_bind h
    try dsimp only at h
    have q1f := fr_RH_fitsFilm_0 q1h
    refine x_iteC h (fun h => ?_) (fun h => ?_)
    · skip
      cases h
      exact x_frO.a3 (x_fr.trans x_fr.rf (x_fr.su q1f rfl))
    · skip
      refine x_iteC h (fun h => ?_) (fun h => ?_)
      · skip
        cases h
        exact x_frO.a3 (x_fr.trans x_fr.rf (x_fr.su q1f rfl))
      · skip
        cases h
        exact x_frO.a3 (x_fr.trans x_fr.rf (x_fr.su q1f rfl))
set_option maxHeartbeats 4000000 in
set_option maxRecDepth 100000 in
theorem fr_RH_fits_0_L27 {v1 : Int32} {a : Int32 × Int32 × Int32 × xS} {o : (Int32 × Int32 × Int32 × xS) ⊕ (Int32 × Int32 × Int32 × xS)} (h : f_RH_fits_0_L27 v1 a = some o) : x_frO [(0, 9), (17, 99999), (18, 99999), (49, 1), (49, 2), (49, 3), (49, 4), (49, 5), (50, 99999), (51, 99999), (52, 99999), (53, 99999), (54, 99999)] (fun a => a.2.2.2) (fun b => b.2.2.2) a.2.2.2 o := by
  unfold f_RH_fits_0_L27 at h
  try dsimp only at h
  refine x_iteC h (fun h => ?_) (fun h => ?_)
  · skip
    cases h
    exact x_frO.b x_fr.rf
  · skip
    obtain ⟨b7, b7h, h⟩ := x_bind h
    try dsimp only at h
    have b7f := x_itF (sA := (fun a => a.2.2.2)) (sB := (fun b => b.2.2.2)) (fun a o h => fr_RH_fits_0_L42 h) _ _ _ b7h
    cases h
    exact x_frO.a3 (x_fr.trans x_fr.rf (x_fr.su b7f rfl))
set_option maxHeartbeats 4000000 in
set_option maxRecDepth 100000 in
theorem fr_RH_fits_0 {v1 : Int32} {σ : xS} {r : (Int32 ⊕ Nat) × xS} (h : f_RH_fits_0 v1 σ = some r) : x_fr [(0, 9), (17, 99999), (18, 99999), (49, 1), (49, 2), (49, 3), (49, 4), (49, 5), (50, 99999), (51, 99999), (52, 99999), (53, 99999), (54, 99999)] σ r.2 := by
  unfold f_RH_fits_0 at h
  try dsimp only at h
  refine x_iteC h (fun h => ?_) (fun h => ?_)
  · skip
    cases h
    exact x_fr.rf
  · skip
    refine x_iteC h (fun h => ?_) (fun h => ?_)
    · skip
      obtain ⟨b9, b9h, h⟩ := x_bind h
      try dsimp only at h
      have b9f := x_itF (sA := (fun a => a.2.2.2)) (sB := (fun b => b.2.2.2)) (fun a o h => fr_RH_fits_0_L27 h) _ _ _ b9h
      refine x_iteC h (fun h => ?_) (fun h => ?_)
      · skip
        cases h
        exact (x_fr.trans x_fr.rf (x_fr.su b9f rfl))
      · skip
        cases h
        exact (x_fr.trans x_fr.rf (x_fr.su b9f rfl))
    · skip
      cases h
      exact x_fr.rf
set_option maxHeartbeats 4000000 in
set_option maxRecDepth 100000 in
theorem fr_Se_write_35 {v1 : Int32} {σ : xS} {r : Int32 × xS} (h : f_Se_write_35 v1 σ = some r) : x_fr [(35, 8), (41, 99999)] σ r.2 := by
  unfold f_Se_write_35 at h
  try dsimp only at h
  refine x_iteC h (fun h => ?_) (fun h => ?_)
  · skip
    obtain ⟨-, h⟩ := x_ifn h
    cases h
    exact (x_frI (p := 35) (k := 8) rfl (x_frI (p := 41) rfl x_fr.rf))
  · skip
    cases h
    exact x_fr.rf
set_option maxHeartbeats 4000000 in
set_option maxRecDepth 100000 in
theorem fr_RH_book_0 {v1 : Int32} {σ : xS} {r : Int32 × xS} (h : f_RH_book_0 v1 σ = some r) : x_fr [(35, 8), (41, 99999), (59, 99999)] σ r.2 := by
  unfold f_RH_book_0 at h
  try dsimp only at h
  obtain ⟨q1, q1h, h⟩ := x_bind h
  try dsimp only at h
  have q1f := fr_RH_isInches q1h
  refine x_iteC h (fun h => ?_) (fun h => ?_)
  · skip
    cases h
    exact (x_frI (p := 59) (k := 2) rfl (x_fr.trans x_fr.rf (x_fr.su q1f rfl)))
  · skip
    obtain ⟨q3, q3h, h⟩ := x_bind h
    try dsimp only at h
    have q3f := fr_Se_write_35 q3h
    refine x_iteC h (fun h => ?_) (fun h => ?_)
    · skip
      cases h
      exact (x_frI (p := 59) (k := 2) rfl (x_fr.trans (x_fr.trans x_fr.rf (x_fr.su q1f rfl)) (x_fr.su q3f rfl)))
    · skip
      cases h
      exact (x_fr.trans (x_fr.trans x_fr.rf (x_fr.su q1f rfl)) (x_fr.su q3f rfl))
set_option maxHeartbeats 4000000 in
set_option maxRecDepth 100000 in
theorem fr_Se_stoppedWithin_35_L4 {v1 : Int32} {a : Int32 × Int32 × xS} {o : (Int32 × Int32 × xS) ⊕ (Int32 × Int32 × xS)} (h : f_Se_stoppedWithin_35_L4 v1 a = some o) : x_frO [] (fun a => a.2.2) (fun b => b.2.2) a.2.2 o := by
  unfold f_Se_stoppedWithin_35_L4 at h
  try dsimp only at h
  refine x_iteC h (fun h => ?_) (fun h => ?_)
  · skip
    cases h
    exact x_frO.b x_fr.rf
  · skip
    refine x_iteC h (fun h => ?_) (fun h => ?_)
    · skip
      cases h
      exact x_frO.b x_fr.rf
    · skip
      obtain ⟨-, h⟩ := x_ifn h
      refine x_iteC h (fun h => ?_) (fun h => ?_)
      · skip
        cases h
        exact x_frO.a2 x_fr.rf
      · skip
        cases h
        exact x_frO.a2 x_fr.rf
set_option maxHeartbeats 4000000 in
set_option maxRecDepth 100000 in
theorem fr_Se_stoppedWithin_35 {v1 : Int32} {σ : xS} {r : Int32 × xS} (h : f_Se_stoppedWithin_35 v1 σ = some r) : x_fr [] σ r.2 := by
  unfold f_Se_stoppedWithin_35 at h
  try dsimp only at h
  obtain ⟨b5, b5h, h⟩ := x_bind h
  try dsimp only at h
  have b5f := x_itF (sA := (fun a => a.2.2)) (sB := (fun b => b.2.2)) (fun a o h => fr_Se_stoppedWithin_35_L4 h) _ _ _ b5h
  cases h
  exact (x_fr.trans x_fr.rf (x_fr.su b5f rfl))
set_option maxHeartbeats 4000000 in
set_option maxRecDepth 100000 in
theorem fr_RH_commonOf_L7 {a : Int32 × Int32 × Int32 × xS} {o : (Int32 × Int32 × Int32 × xS) ⊕ (Int32 × Int32 × Int32 × xS)} (h : f_RH_commonOf_L7 a = some o) : x_frO [] (fun a => a.2.2.2) (fun b => b.2.2.2) a.2.2.2 o := by
  unfold f_RH_commonOf_L7 at h
  try dsimp only at h
  refine x_iteC h (fun h => ?_) (fun h => ?_)
  · skip
    cases h
    exact x_frO.b x_fr.rf
  · skip
    refine x_iteC h (fun h => ?_) (fun h => ?_)
    · skip
      cases h
      exact x_frO.b x_fr.rf
    · skip
      obtain ⟨-, h⟩ := x_ifn h
      cases h
      exact x_frO.a3 x_fr.rf
set_option maxHeartbeats 4000000 in
set_option maxRecDepth 100000 in
theorem fr_RH_commonOf {v0 : Int32} {v1 : Int32} {σ : xS} {r : Int32 × xS} (h : f_RH_commonOf v0 v1 σ = some r) : x_fr [] σ r.2 := by
  unfold f_RH_commonOf at h
  try dsimp only at h
  obtain ⟨b3, b3h, h⟩ := x_bind h
  try dsimp only at h
  have b3f := x_itF (sA := (fun a => a.2.2.2)) (sB := (fun b => b.2.2.2)) (fun a o h => fr_RH_commonOf_L7 h) _ _ _ b3h
  cases h
  exact (x_fr.trans x_fr.rf (x_fr.su b3f rfl))
set_option maxHeartbeats 4000000 in
set_option maxRecDepth 100000 in
theorem fr_RH_partOf {v0 : Int32} {v1 : Int32} {v2 : Int32} {σ : xS} {r : Int32 × xS} (h : f_RH_partOf v0 v1 v2 σ = some r) : x_fr [] σ r.2 := by
  unfold f_RH_partOf at h
  try dsimp only at h
  obtain ⟨q1, q1h, h⟩ := x_bind h
  try dsimp only at h
  have q1f := fr_RH_commonOf q1h
  refine x_iteC h (fun h => ?_) (fun h => ?_)
  · skip
    refine x_iteC h (fun h => ?_) (fun h => ?_)
    · skip
      cases h
      exact (x_fr.trans x_fr.rf (x_fr.su q1f rfl))
    · skip
      cases h
      exact (x_fr.trans x_fr.rf (x_fr.su q1f rfl))
  · skip
    refine x_iteC h (fun h => ?_) (fun h => ?_)
    · skip
      refine x_iteC h (fun h => ?_) (fun h => ?_)
      · skip
        obtain ⟨-, h⟩ := x_ifn h
        cases h
        exact (x_fr.trans x_fr.rf (x_fr.su q1f rfl))
      · skip
        obtain ⟨-, h⟩ := x_ifn h
        cases h
        exact (x_fr.trans x_fr.rf (x_fr.su q1f rfl))
    · skip
      refine x_iteC h (fun h => ?_) (fun h => ?_)
      · skip
        cases h
        exact (x_fr.trans x_fr.rf (x_fr.su q1f rfl))
      · skip
        cases h
        exact (x_fr.trans x_fr.rf (x_fr.su q1f rfl))
set_option maxHeartbeats 4000000 in
set_option maxRecDepth 100000 in
theorem fr_RH_next_0 {v1 : Int32} {v2 : Int32} {σ : xS} {r : (Int32 ⊕ Nat) × xS} (h : f_RH_next_0 v1 v2 σ = some r) : x_fr [] σ r.2 := by
  unfold f_RH_next_0 at h
  try dsimp only at h
  refine x_iteC h (fun h => ?_) (fun h => ?_)
  · skip
    cases h
    exact x_fr.rf
  · skip
    refine x_iteC h (fun h => ?_) (fun h => ?_)
    · skip
      obtain ⟨q1, q1h, h⟩ := x_bind h
      try dsimp only at h
      have q1f := fr_Se_stoppedWithin_35 q1h
      obtain ⟨q2, q2h, h⟩ := x_bind h
      try dsimp only at h
      have q2f := fr_RH_partOf q2h
      cases h
      exact (x_fr.trans (x_fr.trans x_fr.rf (x_fr.su q1f rfl)) (x_fr.su q2f rfl))
    · skip
      cases h
      exact x_fr.rf
set_option maxHeartbeats 4000000 in
set_option maxRecDepth 100000 in
theorem fr_Se_together_35_L4 {a : Int32 × Int32 × xS} {o : (Int32 × Int32 × xS) ⊕ (Int32 × Int32 × xS)} (h : f_Se_together_35_L4 a = some o) : x_frO [] (fun a => a.2.2) (fun b => b.2.2) a.2.2 o := by
  unfold f_Se_together_35_L4 at h
  try dsimp only at h
  refine x_iteC h (fun h => ?_) (fun h => ?_)
  · skip
    cases h
    exact x_frO.b x_fr.rf
  · skip
    refine x_iteC h (fun h => ?_) (fun h => ?_)
    · skip
      cases h
      exact x_frO.b x_fr.rf
    · skip
      obtain ⟨-, h⟩ := x_ifn h
      cases h
      exact x_frO.a2 x_fr.rf
set_option maxHeartbeats 4000000 in
set_option maxRecDepth 100000 in
theorem fr_Se_together_35 {σ : xS} {r : Int32 × xS} (h : f_Se_together_35 σ = some r) : x_fr [] σ r.2 := by
  unfold f_Se_together_35 at h
  try dsimp only at h
  obtain ⟨b3, b3h, h⟩ := x_bind h
  try dsimp only at h
  have b3f := x_itF (sA := (fun a => a.2.2)) (sB := (fun b => b.2.2)) (fun a o h => fr_Se_together_35_L4 h) _ _ _ b3h
  cases h
  exact (x_fr.trans x_fr.rf (x_fr.su b3f rfl))
set_option maxHeartbeats 4000000 in
set_option maxRecDepth 100000 in
theorem fr_Se_span_35_L26 {a : Int32 × Int32 × Int32 × xS} {o : (Int32 × Int32 × Int32 × xS) ⊕ (Int32 × Int32 × Int32 × xS)} (h : f_Se_span_35_L26 a = some o) : x_frO [] (fun a => a.2.2.2) (fun b => b.2.2.2) a.2.2.2 o := by
  unfold f_Se_span_35_L26 at h
  try dsimp only at h
  refine x_iteC h (fun h => ?_) (fun h => ?_)
  · skip
    cases h
    exact x_frO.b x_fr.rf
  · skip
    refine x_iteC h (fun h => ?_) (fun h => ?_)
    · skip
      cases h
      exact x_frO.b x_fr.rf
    · skip
      obtain ⟨-, h⟩ := x_ifn h
      obtain ⟨-, h⟩ := x_ifn h
      cases h
      exact x_frO.a3 x_fr.rf
set_option maxHeartbeats 4000000 in
set_option maxRecDepth 100000 in
theorem fr_Se_span_35 {σ : xS} {r : Int32 × xS} (h : f_Se_span_35 σ = some r) : x_fr [] σ r.2 := by
  unfold f_Se_span_35 at h
  try dsimp only at h
  refine x_iteC h (fun h => ?_) (fun h => ?_)
  · skip
    obtain ⟨b6, b6h, h⟩ := x_bind h
    try dsimp only at h
    have b6f := x_itF (sA := (fun a => a.2.2.2)) (sB := (fun b => b.2.2.2)) (fun a o h => fr_Se_span_35_L26 h) _ _ _ b6h
    cases h
    exact (x_fr.trans x_fr.rf (x_fr.su b6f rfl))
  · skip
    cases h
    exact x_fr.rf
set_option maxHeartbeats 4000000 in
set_option maxRecDepth 100000 in
theorem fr_RH_middle_0 {v1 : Int32} {σ : xS} {r : (Int32 ⊕ Nat) × xS} (h : f_RH_middle_0 v1 σ = some r) : x_fr [] σ r.2 := by
  unfold f_RH_middle_0 at h
  try dsimp only at h
  refine x_iteC h (fun h => ?_) (fun h => ?_)
  · skip
    cases h
    exact x_fr.rf
  · skip
    refine x_iteC h (fun h => ?_) (fun h => ?_)
    · skip
      refine x_iteC h (fun h => ?_) (fun h => ?_)
      · skip
        obtain ⟨q3, q3h, h⟩ := x_bind h
        try dsimp only at h
        have q3f := fr_Se_span_35 q3h
        cases h
        exact (x_fr.trans x_fr.rf (x_fr.su q3f rfl))
      · skip
        obtain ⟨q1, q1h, h⟩ := x_bind h
        try dsimp only at h
        have q1f := fr_Se_together_35 q1h
        obtain ⟨q2, q2h, h⟩ := x_bind h
        try dsimp only at h
        have q2f := fr_RH_partOf q2h
        cases h
        exact (x_fr.trans (x_fr.trans x_fr.rf (x_fr.su q1f rfl)) (x_fr.su q2f rfl))
    · skip
      cases h
      exact x_fr.rf
set_option maxHeartbeats 4000000 in
set_option maxRecDepth 100000 in
theorem fr_RH_forget_0 {σ : xS} {r : Unit × xS} (h : f_RH_forget_0 σ = some r) : x_fr [(35, 6), (35, 8)] σ r.2 := by
  unfold f_RH_forget_0 at h
  try dsimp only at h
  cases h
  exact (x_frI (p := 35) (k := 8) rfl (x_frI (p := 35) (k := 6) rfl x_fr.rf))
set_option maxHeartbeats 4000000 in
set_option maxRecDepth 100000 in
theorem fr_Tr_softFrom_49_L4 {a : Int32 × Int32 × xS} {o : (Int32 × Int32 × xS) ⊕ (Int32 × Int32 × xS)} (h : f_Tr_softFrom_49_L4 a = some o) : x_frO [] (fun a => a.2.2) (fun b => b.2.2) a.2.2 o := by
  unfold f_Tr_softFrom_49_L4 at h
  try dsimp only at h
  refine x_iteC h (fun h => ?_) (fun h => ?_)
  · skip
    cases h
    exact x_frO.b x_fr.rf
  · skip
    obtain ⟨q1, q1h, h⟩ := x_bind h
    try dsimp only at h
    have q1f := fr_Tr_isSharp_49 q1h
    refine x_iteC h (fun h => ?_) (fun h => ?_)
    · skip
      cases h
      exact x_frO.a2 (x_fr.trans x_fr.rf (x_fr.su q1f rfl))
    · skip
      cases h
      exact x_frO.b (x_fr.trans x_fr.rf (x_fr.su q1f rfl))
set_option maxHeartbeats 4000000 in
set_option maxRecDepth 100000 in
theorem fr_Tr_softFrom_49 {v1 : Int32} {σ : xS} {r : Int32 × xS} (h : f_Tr_softFrom_49 v1 σ = some r) : x_fr [] σ r.2 := by
  unfold f_Tr_softFrom_49 at h
  try dsimp only at h
  obtain ⟨b4, b4h, h⟩ := x_bind h
  try dsimp only at h
  have b4f := x_itF (sA := (fun a => a.2.2)) (sB := (fun b => b.2.2)) (fun a o h => fr_Tr_softFrom_49_L4 h) _ _ _ b4h
  cases h
  exact (x_fr.trans x_fr.rf (x_fr.su b4f rfl))
set_option maxHeartbeats 4000000 in
set_option maxRecDepth 100000 in
theorem fr_RH_runs_0_J80 {v1 : Int32} {v2 : Int32} {v3 : Int32} {v4 : Int32} {σ : xS} {o : (((Int32 ⊕ Nat) × xS) ⊕ (Int32 × Int32 × xS)) ⊕ (Int32 × Int32 × xS)} (h : f_RH_runs_0_J80 v1 v2 v3 v4 σ = some o) : x_frO [] (fun a => a.2.2) (fun b => match b with | .inl q => q.2 | .inr e => e.2.2) σ o := by
  unfold f_RH_runs_0_J80 at h
  try dsimp only at h
  refine x_iteC h (fun h => ?_) (fun h => ?_)
  · skip
    refine x_iteC h (fun h => ?_) (fun h => ?_)
    · skip
      cases h
      exact x_frO.b x_fr.rf
    · skip
      obtain ⟨q3, q3h, h⟩ := x_bind h
      try dsimp only at h
      have q3f := fr_Tr_softFrom_49 q3h
      cases h
      exact x_frO.b (x_fr.trans x_fr.rf (x_fr.su q3f rfl))
  · skip
    cases h
    exact x_frO.a2 x_fr.rf
set_option maxHeartbeats 4000000 in
set_option maxRecDepth 100000 in
theorem fr_RH_runs_0_L34 {v1 : Int32} {v2 : Int32} {a : Int32 × Int32 × xS} {o : (((Int32 ⊕ Nat) × xS) ⊕ (Int32 × Int32 × xS)) ⊕ (Int32 × Int32 × xS)} (h : f_RH_runs_0_L34 v1 v2 a = some o) : x_frO [] (fun a => a.2.2) (fun b => match b with | .inl q => q.2 | .inr e => e.2.2) a.2.2 o := by
  unfold f_RH_runs_0_L34 at h
  try dsimp only at h
  refine x_iteC h (fun h => ?_) (fun h => ?_)
  · skip
    cases h
    exact x_frO.b x_fr.rf
  · skip
    obtain ⟨q4, q4h, h⟩ := x_bind h
    try dsimp only at h
    have q4f := fr_Tr_isSharp_49 q4h
    refine x_iteC h (fun h => ?_) (fun h => ?_)
    · skip
      refine x_iteC h (fun h => ?_) (fun h => ?_)
      · skip
        exact x_frO.tr (x_fr.trans x_fr.rf (x_fr.su q4f rfl)) (x_frO.su (fr_RH_runs_0_J80 h) rfl)
      · skip
        obtain ⟨q6, q6h, h⟩ := x_bind h
        try dsimp only at h
        have q6f := fr_Tr_isSharp_49 q6h
        refine x_iteC h (fun h => ?_) (fun h => ?_)
        · skip
          cases h
          exact x_frO.a2 (x_fr.trans (x_fr.trans x_fr.rf (x_fr.su q4f rfl)) (x_fr.su q6f rfl))
        · skip
          exact x_frO.tr (x_fr.trans (x_fr.trans x_fr.rf (x_fr.su q4f rfl)) (x_fr.su q6f rfl)) (x_frO.su (fr_RH_runs_0_J80 h) rfl)
    · skip
      cases h
      exact x_frO.a2 (x_fr.trans x_fr.rf (x_fr.su q4f rfl))
set_option maxHeartbeats 4000000 in
set_option maxRecDepth 100000 in
theorem fr_RH_runs_0 {v1 : Int32} {v2 : Int32} {σ : xS} {r : (Int32 ⊕ Nat) × xS} (h : f_RH_runs_0 v1 v2 σ = some r) : x_fr [(0, 9), (17, 99999), (18, 99999), (49, 1), (49, 2), (49, 3), (49, 4), (49, 5), (50, 99999), (51, 99999), (52, 99999), (53, 99999), (54, 99999)] σ r.2 := by
  unfold f_RH_runs_0 at h
  try dsimp only at h
  refine x_iteC h (fun h => ?_) (fun h => ?_)
  · skip
    cases h
    exact x_fr.rf
  · skip
    refine x_iteC h (fun h => ?_) (fun h => ?_)
    · skip
      cases h
      exact x_fr.rf
    · skip
      refine x_iteC h (fun h => ?_) (fun h => ?_)
      · skip
        obtain ⟨q8, q8h, h⟩ := x_bind h
        try dsimp only at h
        have q8f := fr_RH_walkAsSet_0 q8h
        obtain ⟨b9, b9h, h⟩ := x_bind h
        try dsimp only at h
        have b9f := x_itF (sA := (fun a => a.2.2)) (sB := (fun b => match b with | .inl q => q.2 | .inr e => e.2.2)) (fun a o h => fr_RH_runs_0_L34 h) _ _ _ b9h
        cases b9 with
        | inl b9r =>
          try dsimp only at h
          cases h
          exact (x_fr.trans (x_fr.trans x_fr.rf (x_fr.su q8f rfl)) (x_fr.su b9f rfl))
        | inr b9e =>
          try dsimp only at h
          refine x_iteC h (fun h => ?_) (fun h => ?_)
          · skip
            cases h
            exact (x_fr.trans (x_fr.trans x_fr.rf (x_fr.su q8f rfl)) (x_fr.su b9f rfl))
          · skip
            cases h
            exact (x_fr.trans (x_fr.trans x_fr.rf (x_fr.su q8f rfl)) (x_fr.su b9f rfl))
      · skip
        cases h
        exact x_fr.rf
set_option maxHeartbeats 4000000 in
set_option maxRecDepth 100000 in
theorem fr_RH_cure_0_J97 {v1 : Int32} {v2 : Int32} {v3 : Int32} {σ : xS} {o : (Int32 × Int32 × Int32 × xS) ⊕ (Int32 × Int32 × Int32 × xS)} (h : f_RH_cure_0_J97 v1 v2 v3 σ = some o) : x_frO [(17, 99999), (18, 99999), (49, 5), (51, 99999), (52, 99999), (53, 99999), (54, 99999)] (fun a => a.2.2.2) (fun b => b.2.2.2) σ o := by
  unfold f_RH_cure_0_J97 at h
  try dsimp only at h
  obtain ⟨q1, q1h, h⟩ := x_bind h
  try dsimp only at h
  have q1f := fr_RH_sharpAsTried_0 q1h
  refine x_iteC h (fun h => ?_) (fun h => ?_)
  · skip
    cases h
    exact x_frO.a3 (x_fr.trans x_fr.rf (x_fr.su q1f rfl))
  · skip
    cases h
    exact x_frO.a3 (x_fr.trans x_fr.rf (x_fr.su q1f rfl))
set_option maxHeartbeats 4000000 in
set_option maxRecDepth 100000 in
theorem fr_RH_cure_0_L25 {a : Int32 × Int32 × Int32 × xS} {o : (Int32 × Int32 × Int32 × xS) ⊕ (Int32 × Int32 × Int32 × xS)} (h : f_RH_cure_0_L25 a = some o) : x_frO [(0, 9), (17, 99999), (18, 99999), (49, 1), (49, 2), (49, 3), (49, 4), (49, 5), (50, 99999), (51, 99999), (52, 99999), (53, 99999), (54, 99999)] (fun a => a.2.2.2) (fun b => b.2.2.2) a.2.2.2 o := by
  unfold f_RH_cure_0_L25 at h
  try dsimp only at h
  refine x_iteC h (fun h => ?_) (fun h => ?_)
  · skip
    cases h
    exact x_frO.b x_fr.rf
  · skip
    obtain ⟨q5, q5h, h⟩ := x_bind h
    try dsimp only at h
    have q5f := fr_RH_takeSettings_0 q5h
    refine x_iteC h (fun h => ?_) (fun h => ?_)
    · skip
      exact x_frO.tr (x_frI (p := 50) (k := 3) rfl (x_fr.trans x_fr.rf (x_fr.su q5f rfl))) (x_frO.su (fr_RH_cure_0_J97 h) rfl)
    · skip
      refine x_iteC h (fun h => ?_) (fun h => ?_)
      · skip
        exact x_frO.tr (x_frI (p := 50) (k := 1) rfl (x_fr.trans x_fr.rf (x_fr.su q5f rfl))) (x_frO.su (fr_RH_cure_0_J97 h) rfl)
      · skip
        exact x_frO.tr (x_frI (p := 50) (k := 2) rfl (x_fr.trans x_fr.rf (x_fr.su q5f rfl))) (x_frO.su (fr_RH_cure_0_J97 h) rfl)
set_option maxHeartbeats 4000000 in
set_option maxRecDepth 100000 in
theorem fr_RH_cure_0 {σ : xS} {r : Int32 × xS} (h : f_RH_cure_0 σ = some r) : x_fr [(0, 9), (17, 99999), (18, 99999), (49, 1), (49, 2), (49, 3), (49, 4), (49, 5), (50, 99999), (51, 99999), (52, 99999), (53, 99999), (54, 99999)] σ r.2 := by
  unfold f_RH_cure_0 at h
  try dsimp only at h
  obtain ⟨q9, q9h, h⟩ := x_bind h
  try dsimp only at h
  have q9f := fr_RH_walkAsSet_0 q9h
  obtain ⟨q10, q10h, h⟩ := x_bind h
  try dsimp only at h
  have q10f := fr_Tr_sharpBy_49 q10h
  obtain ⟨b12, b12h, h⟩ := x_bind h
  try dsimp only at h
  have b12f := x_itF (sA := (fun a => a.2.2.2)) (sB := (fun b => b.2.2.2)) (fun a o h => fr_RH_cure_0_L25 h) _ _ _ b12h
  cases h
  exact (x_fr.trans (x_fr.trans (x_fr.trans x_fr.rf (x_fr.su q9f rfl)) (x_fr.su q10f rfl)) (x_fr.su b12f rfl))
set_option maxHeartbeats 4000000 in
set_option maxRecDepth 100000 in
theorem fr_RH_wrists_0_L21 {a : Int32 × Int32 × Int32 × xS} {o : (Int32 × Int32 × Int32 × xS) ⊕ (Int32 × Int32 × Int32 × xS)} (h : f_RH_wrists_0_L21 a = some o) : x_frO [(17, 99999), (18, 99999), (50, 99999), (53, 99999), (54, 99999)] (fun a => a.2.2.2) (fun b => b.2.2.2) a.2.2.2 o := by
  unfold f_RH_wrists_0_L21 at h
  try dsimp only at h
  refine x_iteC h (fun h => ?_) (fun h => ?_)
  · skip
    cases h
    exact x_frO.b x_fr.rf
  · skip
    obtain ⟨q2, q2h, h⟩ := x_bind h
    try dsimp only at h
    have q2f := fr_Tr_follow_49_7 q2h
    obtain ⟨q3, q3h, h⟩ := x_bind h
    try dsimp only at h
    have q3f := fr_Tr_sharpBy_49 q3h
    refine x_iteC h (fun h => ?_) (fun h => ?_)
    · skip
      cases h
      exact x_frO.a3 (x_fr.trans (x_fr.trans (x_frI (p := 50) (k := 2) rfl x_fr.rf) (x_fr.su q2f rfl)) (x_fr.su q3f rfl))
    · skip
      cases h
      exact x_frO.a3 (x_fr.trans (x_fr.trans (x_frI (p := 50) (k := 2) rfl x_fr.rf) (x_fr.su q2f rfl)) (x_fr.su q3f rfl))
set_option maxHeartbeats 4000000 in
set_option maxRecDepth 100000 in
theorem fr_RH_wrists_0 {σ : xS} {r : Int32 × xS} (h : f_RH_wrists_0 σ = some r) : x_fr [(0, 9), (17, 99999), (18, 99999), (49, 1), (49, 2), (49, 3), (49, 4), (49, 5), (50, 99999), (51, 99999), (52, 99999), (53, 99999), (54, 99999)] σ r.2 := by
  unfold f_RH_wrists_0 at h
  try dsimp only at h
  obtain ⟨q7, q7h, h⟩ := x_bind h
  try dsimp only at h
  have q7f := fr_RH_takeSettings_0 q7h
  obtain ⟨q8, q8h, h⟩ := x_bind h
  try dsimp only at h
  have q8f := fr_Tr_look_49_7 q8h
  obtain ⟨b9, b9h, h⟩ := x_bind h
  try dsimp only at h
  have b9f := x_itF (sA := (fun a => a.2.2.2)) (sB := (fun b => b.2.2.2)) (fun a o h => fr_RH_wrists_0_L21 h) _ _ _ b9h
  cases h
  exact (x_fr.trans (x_fr.trans (x_fr.trans x_fr.rf (x_fr.su q7f rfl)) (x_fr.su q8f rfl)) (x_fr.su b9f rfl))
set_option maxHeartbeats 4000000 in
set_option maxRecDepth 100000 in
theorem fr_RH_learn_0_J53 {v1 : Int32} {v2 : Int32} {v3 : Int32} {v4 : Int32} {y1 : Int32} {y2 : Int32} {σ : xS} {o : (Int32 × Int32 × Int32 × xS) ⊕ (Int32 × Int32 × Int32 × xS)} (h : f_RH_learn_0_J53 v1 v2 v3 v4 y1 y2 σ = some o) : x_frO [(17, 99999), (18, 99999), (49, 5), (50, 99999), (51, 99999), (52, 99999), (53, 99999), (54, 99999)] (fun a => a.2.2.2) (fun b => b.2.2.2) σ o := by
  unfold f_RH_learn_0_J53 at h
  try dsimp only at h
  obtain ⟨-, h⟩ := x_ifn h
  obtain ⟨q2, q2h, h⟩ := x_bind h
  try dsimp only at h
  have q2f := fr_RH_sharpAsTried_0 q2h
  refine x_iteC h (fun h => ?_) (fun h => ?_)
  · skip
    cases h
    exact x_frO.a3 (x_fr.trans (x_frI (p := 50) rfl x_fr.rf) (x_fr.su q2f rfl))
  · skip
    cases h
    exact x_frO.a3 (x_fr.trans (x_frI (p := 50) rfl x_fr.rf) (x_fr.su q2f rfl))
set_option maxHeartbeats 4000000 in
set_option maxRecDepth 100000 in
theorem fr_RH_learn_0_L17 {v1 : Int32} {a : Int32 × Int32 × Int32 × xS} {o : (Int32 × Int32 × Int32 × xS) ⊕ (Int32 × Int32 × Int32 × xS)} (h : f_RH_learn_0_L17 v1 a = some o) : x_frO [(0, 9), (17, 99999), (18, 99999), (49, 1), (49, 2), (49, 3), (49, 4), (49, 5), (50, 99999), (51, 99999), (52, 99999), (53, 99999), (54, 99999)] (fun a => a.2.2.2) (fun b => b.2.2.2) a.2.2.2 o := by
  unfold f_RH_learn_0_L17 at h
  try dsimp only at h
  refine x_iteC h (fun h => ?_) (fun h => ?_)
  · skip
    cases h
    exact x_frO.b x_fr.rf
  · skip
    obtain ⟨q6, q6h, h⟩ := x_bind h
    try dsimp only at h
    have q6f := fr_RH_takeSettings_0 q6h
    refine x_iteC h (fun h => ?_) (fun h => ?_)
    · skip
      exact x_frO.tr (x_fr.trans x_fr.rf (x_fr.su q6f rfl)) (x_frO.su (fr_RH_learn_0_J53 h) rfl)
    · skip
      exact x_frO.tr (x_fr.trans x_fr.rf (x_fr.su q6f rfl)) (x_frO.su (fr_RH_learn_0_J53 h) rfl)
set_option maxHeartbeats 4000000 in
set_option maxRecDepth 100000 in
theorem fr_RH_learn_0 {σ : xS} {r : Int32 × xS} (h : f_RH_learn_0 σ = some r) : x_fr [(0, 9), (17, 99999), (18, 99999), (49, 1), (49, 2), (49, 3), (49, 4), (49, 5), (50, 99999), (51, 99999), (52, 99999), (53, 99999), (54, 99999)] σ r.2 := by
  unfold f_RH_learn_0 at h
  try dsimp only at h
  obtain ⟨b8, b8h, h⟩ := x_bind h
  try dsimp only at h
  have b8f := x_itF (sA := (fun a => a.2.2.2)) (sB := (fun b => b.2.2.2)) (fun a o h => fr_RH_learn_0_L17 h) _ _ _ b8h
  cases h
  exact (x_fr.trans x_fr.rf (x_fr.su b8f rfl))
set_option maxHeartbeats 4000000 in
set_option maxRecDepth 100000 in
theorem fr_RH_shift_0_L27 {v1 : Int32} {a : Int32 × Int32 × Int32 × xS} {o : (Int32 × Int32 × Int32 × xS) ⊕ (Int32 × Int32 × Int32 × xS)} (h : f_RH_shift_0_L27 v1 a = some o) : x_frO [(0, 9), (17, 99999), (18, 99999), (49, 1), (49, 2), (49, 3), (49, 4), (49, 5), (50, 99999), (51, 99999), (52, 99999), (53, 99999), (54, 99999)] (fun a => a.2.2.2) (fun b => b.2.2.2) a.2.2.2 o := by
  unfold f_RH_shift_0_L27 at h
  try dsimp only at h
  refine x_iteC h (fun h => ?_) (fun h => ?_)
  · skip
    cases h
    exact x_frO.b x_fr.rf
  · skip
    obtain ⟨q1, q1h, h⟩ := x_bind h
    try dsimp only at h
    have q1f := fr_RH_takeSettings_0 q1h
    obtain ⟨q2, q2h, h⟩ := x_bind h
    try dsimp only at h
    have q2f := fr_RH_outward q2h
    obtain ⟨q4, q4h, h⟩ := x_bind h
    try dsimp only at h
    have q4f := fr_RH_sharpAsTried_0 q4h
    refine x_iteC h (fun h => ?_) (fun h => ?_)
    · skip
      cases h
      exact x_frO.a3 (x_fr.trans (x_frI (p := 49) (k := 3) rfl (x_fr.trans (x_fr.trans x_fr.rf (x_fr.su q1f rfl)) (x_fr.su q2f rfl))) (x_fr.su q4f rfl))
    · skip
      obtain ⟨q7, q7h, h⟩ := x_bind h
      try dsimp only at h
      have q7f := fr_RH_outward q7h
      cases h
      exact x_frO.a3 (x_fr.trans (x_fr.trans (x_frI (p := 49) (k := 3) rfl (x_fr.trans (x_fr.trans x_fr.rf (x_fr.su q1f rfl)) (x_fr.su q2f rfl))) (x_fr.su q4f rfl)) (x_fr.su q7f rfl))
set_option maxHeartbeats 4000000 in
set_option maxRecDepth 100000 in
theorem fr_RH_shift_0 {v1 : Int32} {σ : xS} {r : (Int32 ⊕ Nat) × xS} (h : f_RH_shift_0 v1 σ = some r) : x_fr [(0, 9), (17, 99999), (18, 99999), (49, 1), (49, 2), (49, 3), (49, 4), (49, 5), (50, 99999), (51, 99999), (52, 99999), (53, 99999), (54, 99999)] σ r.2 := by
  unfold f_RH_shift_0 at h
  try dsimp only at h
  refine x_iteC h (fun h => ?_) (fun h => ?_)
  · skip
    cases h
    exact x_fr.rf
  · skip
    refine x_iteC h (fun h => ?_) (fun h => ?_)
    · skip
      obtain ⟨b10, b10h, h⟩ := x_bind h
      try dsimp only at h
      have b10f := x_itF (sA := (fun a => a.2.2.2)) (sB := (fun b => b.2.2.2)) (fun a o h => fr_RH_shift_0_L27 h) _ _ _ b10h
      refine x_iteC h (fun h => ?_) (fun h => ?_)
      · skip
        cases h
        exact (x_fr.trans x_fr.rf (x_fr.su b10f rfl))
      · skip
        cases h
        exact (x_fr.trans x_fr.rf (x_fr.su b10f rfl))
    · skip
      cases h
      exact x_fr.rf
set_option maxHeartbeats 4000000 in
set_option maxRecDepth 100000 in
theorem fr_RH_slip_0_L31 {v1 : Int32} {a : Int32 × Int32 × Int32 × xS} {o : (Int32 × Int32 × Int32 × xS) ⊕ (Int32 × Int32 × Int32 × xS)} (h : f_RH_slip_0_L31 v1 a = some o) : x_frO [(0, 9), (17, 99999), (18, 99999), (49, 1), (49, 2), (49, 3), (49, 4), (49, 5), (50, 99999), (51, 99999), (52, 99999), (53, 99999), (54, 99999)] (fun a => a.2.2.2) (fun b => b.2.2.2) a.2.2.2 o := by
  unfold f_RH_slip_0_L31 at h
  try dsimp only at h
  refine x_iteC h (fun h => ?_) (fun h => ?_)
  · skip
    cases h
    exact x_frO.b x_fr.rf
  · skip
    obtain ⟨q1, q1h, h⟩ := x_bind h
    try dsimp only at h
    have q1f := fr_RH_sharpLate_0 q1h
    refine x_iteC h (fun h => ?_) (fun h => ?_)
    · skip
      cases h
      exact x_frO.a3 (x_fr.trans x_fr.rf (x_fr.su q1f rfl))
    · skip
      cases h
      exact x_frO.a3 (x_fr.trans x_fr.rf (x_fr.su q1f rfl))
set_option maxHeartbeats 4000000 in
set_option maxRecDepth 100000 in
theorem fr_RH_slip_0 {v1 : Int32} {σ : xS} {r : (Int32 ⊕ Nat) × xS} (h : f_RH_slip_0 v1 σ = some r) : x_fr [(0, 9), (17, 99999), (18, 99999), (49, 1), (49, 2), (49, 3), (49, 4), (49, 5), (50, 99999), (51, 99999), (52, 99999), (53, 99999), (54, 99999)] σ r.2 := by
  unfold f_RH_slip_0 at h
  try dsimp only at h
  refine x_iteC h (fun h => ?_) (fun h => ?_)
  · skip
    cases h
    exact x_fr.rf
  · skip
    refine x_iteC h (fun h => ?_) (fun h => ?_)
    · skip
      obtain ⟨q5, q5h, h⟩ := x_bind h
      try dsimp only at h
      have q5f := fr_RH_sharpLate_0 q5h
      obtain ⟨b7, b7h, h⟩ := x_bind h
      try dsimp only at h
      have b7f := x_itF (sA := (fun a => a.2.2.2)) (sB := (fun b => b.2.2.2)) (fun a o h => fr_RH_slip_0_L31 h) _ _ _ b7h
      refine x_iteC h (fun h => ?_) (fun h => ?_)
      · skip
        cases h
        exact (x_fr.trans (x_fr.trans x_fr.rf (x_fr.su q5f rfl)) (x_fr.su b7f rfl))
      · skip
        cases h
        exact (x_fr.trans (x_fr.trans x_fr.rf (x_fr.su q5f rfl)) (x_fr.su b7f rfl))
    · skip
      cases h
      exact x_fr.rf
set_option maxHeartbeats 4000000 in
set_option maxRecDepth 100000 in
theorem fr_RH_lags_0_L24 {v1 : Int32} {a : Int32 × Int32 × xS} {o : (Int32 × Int32 × xS) ⊕ (Int32 × Int32 × xS)} (h : f_RH_lags_0_L24 v1 a = some o) : x_frO [(0, 9), (17, 99999), (18, 99999), (49, 1), (49, 2), (49, 3), (49, 4), (49, 5), (50, 99999), (51, 99999), (52, 99999), (53, 99999), (54, 99999)] (fun a => a.2.2) (fun b => b.2.2) a.2.2 o := by
  unfold f_RH_lags_0_L24 at h
  try dsimp only at h
  refine x_iteC h (fun h => ?_) (fun h => ?_)
  · skip
    cases h
    exact x_frO.b x_fr.rf
  · skip
    obtain ⟨q1, q1h, h⟩ := x_bind h
    try dsimp only at h
    have q1f := fr_RH_takeSettings_0 q1h
    obtain ⟨q3, q3h, h⟩ := x_bind h
    try dsimp only at h
    have q3f := fr_Tr_walk_49_7 q3h
    obtain ⟨q4, q4h, h⟩ := x_bind h
    try dsimp only at h
    have q4f := fr_Se_isFilmOf_35_49 q4h
    refine x_iteC h (fun h => ?_) (fun h => ?_)
    · skip
      cases h
      exact x_frO.a2 (x_fr.trans (x_fr.trans (x_frI (p := 50) (k := 1) rfl (x_fr.trans x_fr.rf (x_fr.su q1f rfl))) (x_fr.su q3f rfl)) (x_fr.su q4f rfl))
    · skip
      refine x_iteC h (fun h => ?_) (fun h => ?_)
      · skip
        cases h
        exact x_frO.a2 (x_fr.trans (x_fr.trans (x_frI (p := 50) (k := 1) rfl (x_fr.trans x_fr.rf (x_fr.su q1f rfl))) (x_fr.su q3f rfl)) (x_fr.su q4f rfl))
      · skip
        refine x_iteC h (fun h => ?_) (fun h => ?_)
        · skip
          cases h
          exact x_frO.a2 (x_fr.trans (x_fr.trans (x_frI (p := 50) (k := 1) rfl (x_fr.trans x_fr.rf (x_fr.su q1f rfl))) (x_fr.su q3f rfl)) (x_fr.su q4f rfl))
        · skip
          cases h
          exact x_frO.a2 (x_fr.trans (x_fr.trans (x_frI (p := 50) (k := 1) rfl (x_fr.trans x_fr.rf (x_fr.su q1f rfl))) (x_fr.su q3f rfl)) (x_fr.su q4f rfl))
set_option maxHeartbeats 4000000 in
set_option maxRecDepth 100000 in
theorem fr_RH_lags_0 {v1 : Int32} {σ : xS} {r : (Int32 ⊕ Nat) × xS} (h : f_RH_lags_0 v1 σ = some r) : x_fr [(0, 9), (17, 99999), (18, 99999), (49, 1), (49, 2), (49, 3), (49, 4), (49, 5), (50, 99999), (51, 99999), (52, 99999), (53, 99999), (54, 99999)] σ r.2 := by
  unfold f_RH_lags_0 at h
  try dsimp only at h
  refine x_iteC h (fun h => ?_) (fun h => ?_)
  · skip
    cases h
    exact x_fr.rf
  · skip
    refine x_iteC h (fun h => ?_) (fun h => ?_)
    · skip
      obtain ⟨b9, b9h, h⟩ := x_bind h
      try dsimp only at h
      have b9f := x_itF (sA := (fun a => a.2.2)) (sB := (fun b => b.2.2)) (fun a o h => fr_RH_lags_0_L24 h) _ _ _ b9h
      cases h
      exact (x_fr.trans x_fr.rf (x_fr.su b9f rfl))
    · skip
      cases h
      exact x_fr.rf
set_option maxHeartbeats 4000000 in
set_option maxRecDepth 100000 in
theorem fr_RH_depth_0_J87 {v1 : Int32} {v2 : Int32} {v3 : Int32} {v4 : Int32} {y0 : Int32} {σ : xS} {o : (Int32 × Int32 × xS) ⊕ (Int32 × Int32 × xS)} (h : f_RH_depth_0_J87 v1 v2 v3 v4 y0 σ = some o) : x_frO [] (fun a => a.2.2) (fun b => b.2.2) σ o := by
  unfold f_RH_depth_0_J87 at h
  try dsimp only at h
  refine x_iteC h (fun h => ?_) (fun h => ?_)
  · skip
    cases h
    exact x_frO.a2 x_fr.rf
  · skip
    refine x_iteC h (fun h => ?_) (fun h => ?_)
    · skip
      cases h
      exact x_frO.a2 x_fr.rf
    · skip
      refine x_iteC h (fun h => ?_) (fun h => ?_)
      · skip
        cases h
        exact x_frO.a2 x_fr.rf
      · skip
        cases h
        exact x_frO.a2 x_fr.rf
set_option maxHeartbeats 4000000 in
set_option maxRecDepth 100000 in
theorem fr_RH_depth_0_L48 {v1 : Int32} {v2 : Int32} {a : Int32 × Int32 × xS} {o : (Int32 × Int32 × xS) ⊕ (Int32 × Int32 × xS)} (h : f_RH_depth_0_L48 v1 v2 a = some o) : x_frO [] (fun a => a.2.2) (fun b => b.2.2) a.2.2 o := by
  unfold f_RH_depth_0_L48 at h
  try dsimp only at h
  refine x_iteC h (fun h => ?_) (fun h => ?_)
  · skip
    cases h
    exact x_frO.b x_fr.rf
  · skip
    obtain ⟨q5, q5h, h⟩ := x_bind h
    try dsimp only at h
    have q5f := fr_Sc_turnOf_7 q5h
    refine x_iteC h (fun h => ?_) (fun h => ?_)
    · skip
      exact x_frO.tr (x_fr.trans x_fr.rf (x_fr.su q5f rfl)) (x_frO.su (fr_RH_depth_0_J87 h) rfl)
    · skip
      exact x_frO.tr (x_fr.trans x_fr.rf (x_fr.su q5f rfl)) (x_frO.su (fr_RH_depth_0_J87 h) rfl)
set_option maxHeartbeats 4000000 in
set_option maxRecDepth 100000 in
theorem fr_RH_depth_0 {v1 : Int32} {v2 : Int32} {σ : xS} {r : (Int32 ⊕ Nat) × xS} (h : f_RH_depth_0 v1 v2 σ = some r) : x_fr [] σ r.2 := by
  unfold f_RH_depth_0 at h
  try dsimp only at h
  refine x_iteC h (fun h => ?_) (fun h => ?_)
  · skip
    cases h
    exact x_fr.rf
  · skip
    refine x_iteC h (fun h => ?_) (fun h => ?_)
    · skip
      refine x_iteC h (fun h => ?_) (fun h => ?_)
      · skip
        cases h
        exact x_fr.rf
      · skip
        refine x_iteC h (fun h => ?_) (fun h => ?_)
        · skip
          obtain ⟨b6, b6h, h⟩ := x_bind h
          try dsimp only at h
          have b6f := x_itF (sA := (fun a => a.2.2)) (sB := (fun b => b.2.2)) (fun a o h => fr_RH_depth_0_L48 h) _ _ _ b6h
          cases h
          exact (x_fr.trans x_fr.rf (x_fr.su b6f rfl))
        · skip
          cases h
          exact x_fr.rf
    · skip
      cases h
      exact x_fr.rf
set_option maxHeartbeats 4000000 in
set_option maxRecDepth 100000 in
theorem fr_RH_shots_0_J64 {v1 : Int32} {v2 : Int32} {v4 : Int32} {y0 : Int32} {σ : xS} {o : (Int32 × Int32 × Int32 × xS) ⊕ (Int32 × Int32 × Int32 × xS)} (h : f_RH_shots_0_J64 v1 v2 v4 y0 σ = some o) : x_frO [] (fun a => a.2.2.2) (fun b => b.2.2.2) σ o := by
  unfold f_RH_shots_0_J64 at h
  try dsimp only at h
  refine x_iteC h (fun h => ?_) (fun h => ?_)
  · skip
    cases h
    exact x_frO.a3 x_fr.rf
  · skip
    cases h
    exact x_frO.a3 x_fr.rf
set_option maxHeartbeats 4000000 in
set_option maxRecDepth 100000 in
theorem fr_RH_shots_0_L33 {v1 : Int32} {a : Int32 × Int32 × Int32 × xS} {o : (Int32 × Int32 × Int32 × xS) ⊕ (Int32 × Int32 × Int32 × xS)} (h : f_RH_shots_0_L33 v1 a = some o) : x_frO [] (fun a => a.2.2.2) (fun b => b.2.2.2) a.2.2.2 o := by
  unfold f_RH_shots_0_L33 at h
  try dsimp only at h
  refine x_iteC h (fun h => ?_) (fun h => ?_)
  · skip
    cases h
    exact x_frO.b x_fr.rf
  · skip
    obtain ⟨q5, q5h, h⟩ := x_bind h
    try dsimp only at h
    have q5f := fr_Tr_isSharp_49 q5h
    refine x_iteC h (fun h => ?_) (fun h => ?_)
    · skip
      exact x_frO.tr (x_fr.trans x_fr.rf (x_fr.su q5f rfl)) (x_frO.su (fr_RH_shots_0_J64 h) rfl)
    · skip
      exact x_frO.tr (x_fr.trans x_fr.rf (x_fr.su q5f rfl)) (x_frO.su (fr_RH_shots_0_J64 h) rfl)
set_option maxHeartbeats 4000000 in
set_option maxRecDepth 100000 in
theorem fr_RH_shots_0 {v1 : Int32} {σ : xS} {r : (Int32 ⊕ Nat) × xS} (h : f_RH_shots_0 v1 σ = some r) : x_fr [(0, 9), (17, 99999), (18, 99999), (49, 1), (49, 2), (49, 3), (49, 4), (49, 5), (50, 99999), (51, 99999), (52, 99999), (53, 99999), (54, 99999)] σ r.2 := by
  unfold f_RH_shots_0 at h
  try dsimp only at h
  refine x_iteC h (fun h => ?_) (fun h => ?_)
  · skip
    cases h
    exact x_fr.rf
  · skip
    refine x_iteC h (fun h => ?_) (fun h => ?_)
    · skip
      obtain ⟨q6, q6h, h⟩ := x_bind h
      try dsimp only at h
      have q6f := fr_RH_walkAsSet_0 q6h
      obtain ⟨b7, b7h, h⟩ := x_bind h
      try dsimp only at h
      have b7f := x_itF (sA := (fun a => a.2.2.2)) (sB := (fun b => b.2.2.2)) (fun a o h => fr_RH_shots_0_L33 h) _ _ _ b7h
      cases h
      exact (x_fr.trans (x_fr.trans x_fr.rf (x_fr.su q6f rfl)) (x_fr.su b7f rfl))
    · skip
      cases h
      exact x_fr.rf
set_option maxHeartbeats 4000000 in
set_option maxRecDepth 100000 in
theorem fr_RH_quickest_0_L31 {v1 : Int32} {a : Int32 × Int32 × Int32 × xS} {o : (Int32 × Int32 × Int32 × xS) ⊕ (Int32 × Int32 × Int32 × xS)} (h : f_RH_quickest_0_L31 v1 a = some o) : x_frO [] (fun a => a.2.2.2) (fun b => b.2.2.2) a.2.2.2 o := by
  unfold f_RH_quickest_0_L31 at h
  try dsimp only at h
  refine x_iteC h (fun h => ?_) (fun h => ?_)
  · skip
    cases h
    exact x_frO.b x_fr.rf
  · skip
    obtain ⟨q1, q1h, h⟩ := x_bind h
    try dsimp only at h
    have q1f := fr_Tr_rightIn_49_7 q1h
    obtain ⟨q2, q2h, h⟩ := x_bind h
    try dsimp only at h
    have q2f := fr_Tr_rightIn_49_7 q2h
    refine x_iteC h (fun h => ?_) (fun h => ?_)
    · skip
      cases h
      exact x_frO.a3 (x_fr.trans (x_fr.trans x_fr.rf (x_fr.su q1f rfl)) (x_fr.su q2f rfl))
    · skip
      refine x_iteC h (fun h => ?_) (fun h => ?_)
      · skip
        cases h
        exact x_frO.a3 (x_fr.trans (x_fr.trans x_fr.rf (x_fr.su q1f rfl)) (x_fr.su q2f rfl))
      · skip
        cases h
        exact x_frO.a3 (x_fr.trans (x_fr.trans x_fr.rf (x_fr.su q1f rfl)) (x_fr.su q2f rfl))
set_option maxHeartbeats 4000000 in
set_option maxRecDepth 100000 in
theorem fr_RH_quickest_0 {v1 : Int32} {σ : xS} {r : (Int32 ⊕ Nat) × xS} (h : f_RH_quickest_0 v1 σ = some r) : x_fr [(0, 9), (49, 1), (49, 2), (49, 3), (49, 4), (50, 99999)] σ r.2 := by
  unfold f_RH_quickest_0 at h
  try dsimp only at h
  refine x_iteC h (fun h => ?_) (fun h => ?_)
  · skip
    cases h
    exact x_fr.rf
  · skip
    refine x_iteC h (fun h => ?_) (fun h => ?_)
    · skip
      obtain ⟨q7, q7h, h⟩ := x_bind h
      try dsimp only at h
      have q7f := fr_RH_takeSettings_0 q7h
      obtain ⟨b8, b8h, h⟩ := x_bind h
      try dsimp only at h
      have b8f := x_itF (sA := (fun a => a.2.2.2)) (sB := (fun b => b.2.2.2)) (fun a o h => fr_RH_quickest_0_L31 h) _ _ _ b8h
      refine x_iteC h (fun h => ?_) (fun h => ?_)
      · skip
        cases h
        exact (x_fr.trans (x_fr.trans x_fr.rf (x_fr.su q7f rfl)) (x_fr.su b8f rfl))
      · skip
        cases h
        exact (x_fr.trans (x_fr.trans x_fr.rf (x_fr.su q7f rfl)) (x_fr.su b8f rfl))
    · skip
      cases h
      exact x_fr.rf
set_option maxHeartbeats 4000000 in
set_option maxRecDepth 100000 in
theorem fr_Se_copyOf_42_35 {σ : xS} {r : Unit × xS} (h : f_Se_copyOf_42_35 σ = some r) : x_fr [(42, 3), (42, 6), (42, 8), (43, 99999), (44, 99999), (45, 99999), (46, 99999), (47, 99999), (48, 99999)] σ r.2 := by
  unfold f_Se_copyOf_42_35 at h
  try dsimp only at h
  cases h
  exact (x_frI (p := 42) (k := 8) rfl (x_frC (fun _ => rfl) (x_frI (p := 42) (k := 6) rfl (x_frC (fun _ => rfl) (x_frC (fun _ => rfl) (x_frI (p := 42) (k := 3) rfl (x_frC (fun _ => rfl) (x_frC (fun _ => rfl) (x_frC (fun _ => rfl) x_fr.rf)))))))))
set_option maxHeartbeats 4000000 in
set_option maxRecDepth 100000 in
theorem fr_RH_image_0 {σ : xS} {r : Unit × xS} (h : f_RH_image_0 σ = some r) : x_fr [(0, 7), (42, 3), (42, 6), (42, 8), (43, 99999), (44, 99999), (45, 99999), (46, 99999), (47, 99999), (48, 99999)] σ r.2 := by
  unfold f_RH_image_0 at h
  try dsimp only at h
  obtain ⟨q1, q1h, h⟩ := x_bind h
  try dsimp only at h
  have q1f := fr_Se_copyOf_42_35 q1h
  cases h
  exact (x_frI (p := 0) (k := 7) rfl (x_fr.trans x_fr.rf (x_fr.su q1f rfl)))
set_option maxHeartbeats 4000000 in
set_option maxRecDepth 100000 in
theorem fr_Se_copyOf_35_42 {σ : xS} {r : Unit × xS} (h : f_Se_copyOf_35_42 σ = some r) : x_fr [(35, 3), (35, 6), (35, 8), (36, 99999), (37, 99999), (38, 99999), (39, 99999), (40, 99999), (41, 99999)] σ r.2 := by
  unfold f_Se_copyOf_35_42 at h
  try dsimp only at h
  cases h
  exact (x_frI (p := 35) (k := 8) rfl (x_frC (fun _ => rfl) (x_frI (p := 35) (k := 6) rfl (x_frC (fun _ => rfl) (x_frC (fun _ => rfl) (x_frI (p := 35) (k := 3) rfl (x_frC (fun _ => rfl) (x_frC (fun _ => rfl) (x_frC (fun _ => rfl) x_fr.rf)))))))))
set_option maxHeartbeats 4000000 in
set_option maxRecDepth 100000 in
theorem fr_RH_restore_0 {σ : xS} {r : Int32 × xS} (h : f_RH_restore_0 σ = some r) : x_fr [(0, 9), (35, 3), (35, 6), (35, 8), (36, 99999), (37, 99999), (38, 99999), (39, 99999), (40, 99999), (41, 99999)] σ r.2 := by
  unfold f_RH_restore_0 at h
  try dsimp only at h
  refine x_iteC h (fun h => ?_) (fun h => ?_)
  · skip
    cases h
    exact x_fr.rf
  · skip
    obtain ⟨q1, q1h, h⟩ := x_bind h
    try dsimp only at h
    have q1f := fr_Se_copyOf_35_42 q1h
    cases h
    exact (x_frI (p := 0) (k := 9) rfl (x_fr.trans x_fr.rf (x_fr.su q1f rfl)))
set_option maxHeartbeats 4000000 in
set_option maxRecDepth 100000 in
theorem fr_Re_word_2 {σ : xS} {r : Nat × xS} (h : f_Re_word_2 σ = some r) : x_fr [] σ r.2 := by
  unfold f_Re_word_2 at h
  try dsimp only at h
  refine x_iteC h (fun h => ?_) (fun h => ?_)
  · skip
    cases h
    exact x_fr.rf
  · skip
    obtain ⟨-, h⟩ := x_ifn h
    refine x_iteC h (fun h => ?_) (fun h => ?_)
    · skip
      obtain ⟨-, h⟩ := x_ifn h
      refine x_iteC h (fun h => ?_) (fun h => ?_)
      · skip
        cases h
        exact x_fr.rf
      · skip
        obtain ⟨-, h⟩ := x_ifn h
        refine x_iteC h (fun h => ?_) (fun h => ?_)
        · skip
          obtain ⟨-, h⟩ := x_ifn h
          obtain ⟨-, h⟩ := x_ifn h
          cases h
          exact x_fr.rf
        · skip
          cases h
          exact x_fr.rf
    · skip
      cases h
      exact x_fr.rf
set_option maxHeartbeats 4000000 in
set_option maxRecDepth 100000 in
theorem fr_Re_advance_2 {σ : xS} {r : Unit × xS} (h : f_Re_advance_2 σ = some r) : x_fr [(2, 4)] σ r.2 := by
  unfold f_Re_advance_2 at h
  try dsimp only at h
  refine x_iteC h (fun h => ?_) (fun h => ?_)
  · skip
    cases h
    exact x_fr.rf
  · skip
    cases h
    exact (x_frI (p := 2) (k := 4) rfl x_fr.rf)
set_option maxHeartbeats 4000000 in
set_option maxRecDepth 100000 in
theorem fr_Re_refuse_2 {v1 : Int32} {σ : xS} {r : Int32 × xS} (h : f_Re_refuse_2 v1 σ = some r) : x_fr [(2, 6), (2, 7)] σ r.2 := by
  unfold f_Re_refuse_2 at h
  try dsimp only at h
  refine x_iteC h (fun h => ?_) (fun h => ?_)
  · skip
    cases h
    exact (x_frI (p := 2) (k := 7) rfl (x_frI (p := 2) (k := 6) rfl x_fr.rf))
  · skip
    obtain ⟨-, h⟩ := x_ifn h
    cases h
    exact (x_frI (p := 2) (k := 7) rfl (x_frI (p := 2) (k := 6) rfl x_fr.rf))
set_option maxHeartbeats 4000000 in
set_option maxRecDepth 100000 in
theorem fr_Re_isNumber_2 {v1 : Int32} {v2 : Int32} {σ : xS} {r : Int32 × xS} (h : f_Re_isNumber_2 v1 v2 σ = some r) : x_fr [(2, 6), (2, 7)] σ r.2 := by
  unfold f_Re_isNumber_2 at h
  try dsimp only at h
  obtain ⟨q1, q1h, h⟩ := x_bind h
  try dsimp only at h
  have q1f := fr_Re_isKind_2 q1h
  refine x_iteC h (fun h => ?_) (fun h => ?_)
  · skip
    obtain ⟨q4, q4h, h⟩ := x_bind h
    try dsimp only at h
    have q4f := fr_Re_refuse_2 q4h
    obtain ⟨-, h⟩ := x_ift h
    cases h
    exact (x_fr.trans (x_fr.trans x_fr.rf (x_fr.su q1f rfl)) (x_fr.su q4f rfl))
  · skip
    obtain ⟨-, h⟩ := x_ifn h
    refine x_iteC h (fun h => ?_) (fun h => ?_)
    · skip
      obtain ⟨q2, q2h, h⟩ := x_bind h
      try dsimp only at h
      have q2f := fr_Re_refuse_2 q2h
      refine x_iteC h (fun h => ?_) (fun h => ?_)
      · skip
        cases h
        exact (x_fr.trans (x_fr.trans x_fr.rf (x_fr.su q1f rfl)) (x_fr.su q2f rfl))
      · skip
        cases h
        exact (x_fr.trans (x_fr.trans x_fr.rf (x_fr.su q1f rfl)) (x_fr.su q2f rfl))
    · skip
      obtain ⟨-, h⟩ := x_ifn h
      refine x_iteC h (fun h => ?_) (fun h => ?_)
      · skip
        cases h
        exact (x_fr.trans x_fr.rf (x_fr.su q1f rfl))
      · skip
        obtain ⟨q3, q3h, h⟩ := x_bind h
        try dsimp only at h
        have q3f := fr_Re_refuse_2 q3h
        refine x_iteC h (fun h => ?_) (fun h => ?_)
        · skip
          cases h
          exact (x_fr.trans (x_fr.trans x_fr.rf (x_fr.su q1f rfl)) (x_fr.su q3f rfl))
        · skip
          cases h
          exact (x_fr.trans (x_fr.trans x_fr.rf (x_fr.su q1f rfl)) (x_fr.su q3f rfl))
set_option maxHeartbeats 4000000 in
set_option maxRecDepth 100000 in
theorem fr_Re_takeNumber_2 {σ : xS} {r : Int32 × xS} (h : f_Re_takeNumber_2 σ = some r) : x_fr [(2, 4)] σ r.2 := by
  unfold f_Re_takeNumber_2 at h
  try dsimp only at h
  refine x_iteC h (fun h => ?_) (fun h => ?_)
  · skip
    obtain ⟨q1, q1h, h⟩ := x_bind h
    try dsimp only at h
    have q1f := fr_Re_advance_2 q1h
    cases h
    exact (x_fr.trans x_fr.rf (x_fr.su q1f rfl))
  · skip
    obtain ⟨-, h⟩ := x_ifn h
    obtain ⟨q3, q3h, h⟩ := x_bind h
    try dsimp only at h
    have q3f := fr_Re_advance_2 q3h
    cases h
    exact (x_fr.trans x_fr.rf (x_fr.su q3f rfl))
set_option maxHeartbeats 4000000 in
set_option maxRecDepth 100000 in
theorem fr_Sc_addMove_21 {v1 : Int32} {v2 : Int32} {σ : xS} {r : Unit × xS} (h : f_Sc_addMove_21 v1 v2 σ = some r) : x_fr [(21, 1), (21, 4), (22, 99999), (23, 99999)] σ r.2 := by
  unfold f_Sc_addMove_21 at h
  try dsimp only at h
  refine x_iteC h (fun h => ?_) (fun h => ?_)
  · skip
    cases h
    exact x_fr.rf
  · skip
    obtain ⟨-, h⟩ := x_ifn h
    obtain ⟨-, h⟩ := x_ifn h
    cases h
    exact (x_frI (p := 21) (k := 4) rfl (x_frI (p := 21) (k := 1) rfl (x_frI (p := 23) rfl (x_frI (p := 22) rfl x_fr.rf))))
set_option maxHeartbeats 4000000 in
set_option maxRecDepth 100000 in
theorem fr_Re_isSign_2 {v1 : Int32} {σ : xS} {r : Int32 × xS} (h : f_Re_isSign_2 v1 σ = some r) : x_fr [] σ r.2 := by
  unfold f_Re_isSign_2 at h
  try dsimp only at h
  obtain ⟨q1, q1h, h⟩ := x_bind h
  try dsimp only at h
  have q1f := fr_Re_isKind_2 q1h
  refine x_iteC h (fun h => ?_) (fun h => ?_)
  · skip
    cases h
    exact (x_fr.trans x_fr.rf (x_fr.su q1f rfl))
  · skip
    obtain ⟨-, h⟩ := x_ifn h
    refine x_iteC h (fun h => ?_) (fun h => ?_)
    · skip
      cases h
      exact (x_fr.trans x_fr.rf (x_fr.su q1f rfl))
    · skip
      cases h
      exact (x_fr.trans x_fr.rf (x_fr.su q1f rfl))
set_option maxHeartbeats 4000000 in
set_option maxRecDepth 100000 in
theorem fr_Re_readEnd_2 {σ : xS} {r : Int32 × xS} (h : f_Re_readEnd_2 σ = some r) : x_fr [(2, 4), (2, 6), (2, 7)] σ r.2 := by
  unfold f_Re_readEnd_2 at h
  try dsimp only at h
  obtain ⟨q1, q1h, h⟩ := x_bind h
  try dsimp only at h
  have q1f := fr_Re_isSign_2 q1h
  refine x_iteC h (fun h => ?_) (fun h => ?_)
  · skip
    obtain ⟨q3, q3h, h⟩ := x_bind h
    try dsimp only at h
    have q3f := fr_Re_refuse_2 q3h
    obtain ⟨-, h⟩ := x_ift h
    cases h
    exact (x_fr.trans (x_fr.trans x_fr.rf (x_fr.su q1f rfl)) (x_fr.su q3f rfl))
  · skip
    obtain ⟨q2, q2h, h⟩ := x_bind h
    try dsimp only at h
    have q2f := fr_Re_advance_2 q2h
    cases h
    exact (x_fr.trans (x_fr.trans x_fr.rf (x_fr.su q1f rfl)) (x_fr.su q2f rfl))
set_option maxHeartbeats 4000000 in
set_option maxRecDepth 100000 in
theorem fr_Re_readTenths_2_21 {v2 : Int32} {σ : xS} {r : Int32 × xS} (h : f_Re_readTenths_2_21 v2 σ = some r) : x_fr [(2, 4), (2, 6), (2, 7), (21, 1), (21, 4), (22, 99999), (23, 99999)] σ r.2 := by
  unfold f_Re_readTenths_2_21 at h
  try dsimp only at h
  obtain ⟨q1, q1h, h⟩ := x_bind h
  try dsimp only at h
  have q1f := fr_Re_isNumber_2 q1h
  refine x_iteC h (fun h => ?_) (fun h => ?_)
  · skip
    cases h
    exact (x_fr.trans x_fr.rf (x_fr.su q1f rfl))
  · skip
    obtain ⟨q2, q2h, h⟩ := x_bind h
    try dsimp only at h
    have q2f := fr_Re_takeNumber_2 q2h
    obtain ⟨q3, q3h, h⟩ := x_bind h
    try dsimp only at h
    have q3f := fr_Sc_addMove_21 q3h
    obtain ⟨q4, q4h, h⟩ := x_bind h
    try dsimp only at h
    have q4f := fr_Re_readEnd_2 q4h
    obtain ⟨-, h⟩ := x_ift h
    cases h
    exact (x_fr.trans (x_fr.trans (x_fr.trans (x_fr.trans x_fr.rf (x_fr.su q1f rfl)) (x_fr.su q2f rfl)) (x_fr.su q3f rfl)) (x_fr.su q4f rfl))
set_option maxHeartbeats 4000000 in
set_option maxRecDepth 100000 in
theorem fr_Re_readGo_2_21 {σ : xS} {r : Int32 × xS} (h : f_Re_readGo_2_21 σ = some r) : x_fr [(2, 4), (2, 6), (2, 7), (21, 1), (21, 4), (22, 99999), (23, 99999)] σ r.2 := by
  unfold f_Re_readGo_2_21 at h
  try dsimp only at h
  refine x_iteC h (fun h => ?_) (fun h => ?_)
  · skip
    obtain ⟨q1, q1h, h⟩ := x_bind h
    try dsimp only at h
    have q1f := fr_Re_advance_2 q1h
    obtain ⟨q2, q2h, h⟩ := x_bind h
    try dsimp only at h
    have q2f := fr_Re_isNumber_2 q2h
    refine x_iteC h (fun h => ?_) (fun h => ?_)
    · skip
      cases h
      exact (x_fr.trans (x_fr.trans x_fr.rf (x_fr.su q1f rfl)) (x_fr.su q2f rfl))
    · skip
      obtain ⟨q3, q3h, h⟩ := x_bind h
      try dsimp only at h
      have q3f := fr_Re_takeNumber_2 q3h
      obtain ⟨q4, q4h, h⟩ := x_bind h
      try dsimp only at h
      have q4f := fr_Re_readTenths_2_21 q4h
      obtain ⟨-, h⟩ := x_ift h
      cases h
      exact (x_fr.trans (x_fr.trans (x_fr.trans (x_fr.trans x_fr.rf (x_fr.su q1f rfl)) (x_fr.su q2f rfl)) (x_fr.su q3f rfl)) (x_fr.su q4f rfl))
  · skip
    obtain ⟨q5, q5h, h⟩ := x_bind h
    try dsimp only at h
    have q5f := fr_Re_refuse_2 q5h
    obtain ⟨-, h⟩ := x_ift h
    cases h
    exact (x_fr.trans x_fr.rf (x_fr.su q5f rfl))
set_option maxHeartbeats 4000000 in
set_option maxRecDepth 100000 in
theorem fr_Sc_lastPlace_21 {σ : xS} {r : Int32 × xS} (h : f_Sc_lastPlace_21 σ = some r) : x_fr [] σ r.2 := by
  unfold f_Sc_lastPlace_21 at h
  try dsimp only at h
  refine x_iteC h (fun h => ?_) (fun h => ?_)
  · skip
    cases h
    exact x_fr.rf
  · skip
    refine x_iteC h (fun h => ?_) (fun h => ?_)
    · skip
      obtain ⟨-, h⟩ := x_ifn h
      cases h
      exact x_fr.rf
    · skip
      cases h
      exact x_fr.rf
set_option maxHeartbeats 4000000 in
set_option maxRecDepth 100000 in
theorem fr_Re_readStay_2_21 {σ : xS} {r : Int32 × xS} (h : f_Re_readStay_2_21 σ = some r) : x_fr [(2, 4), (2, 6), (2, 7), (21, 1), (21, 4), (22, 99999), (23, 99999)] σ r.2 := by
  unfold f_Re_readStay_2_21 at h
  try dsimp only at h
  refine x_iteC h (fun h => ?_) (fun h => ?_)
  · skip
    obtain ⟨q1, q1h, h⟩ := x_bind h
    try dsimp only at h
    have q1f := fr_Re_advance_2 q1h
    obtain ⟨q2, q2h, h⟩ := x_bind h
    try dsimp only at h
    have q2f := fr_Sc_lastPlace_21 q2h
    obtain ⟨q3, q3h, h⟩ := x_bind h
    try dsimp only at h
    have q3f := fr_Re_readTenths_2_21 q3h
    obtain ⟨-, h⟩ := x_ift h
    cases h
    exact (x_fr.trans (x_fr.trans (x_fr.trans x_fr.rf (x_fr.su q1f rfl)) (x_fr.su q2f rfl)) (x_fr.su q3f rfl))
  · skip
    obtain ⟨q4, q4h, h⟩ := x_bind h
    try dsimp only at h
    have q4f := fr_Re_refuse_2 q4h
    obtain ⟨-, h⟩ := x_ift h
    cases h
    exact (x_fr.trans x_fr.rf (x_fr.su q4f rfl))
set_option maxHeartbeats 4000000 in
set_option maxRecDepth 100000 in
theorem fr_Sc_lastChange_21 {σ : xS} {r : Int32 × xS} (h : f_Sc_lastChange_21 σ = some r) : x_fr [] σ r.2 := by
  unfold f_Sc_lastChange_21 at h
  try dsimp only at h
  refine x_iteC h (fun h => ?_) (fun h => ?_)
  · skip
    cases h
    exact x_fr.rf
  · skip
    refine x_iteC h (fun h => ?_) (fun h => ?_)
    · skip
      obtain ⟨-, h⟩ := x_ifn h
      cases h
      exact x_fr.rf
    · skip
      cases h
      exact x_fr.rf
set_option maxHeartbeats 4000000 in
set_option maxRecDepth 100000 in
theorem fr_Sc_addChange_21 {v1 : Int32} {v2 : Int32} {σ : xS} {r : Unit × xS} (h : f_Sc_addChange_21 v1 v2 σ = some r) : x_fr [(21, 5), (24, 99999), (25, 99999)] σ r.2 := by
  unfold f_Sc_addChange_21 at h
  try dsimp only at h
  refine x_iteC h (fun h => ?_) (fun h => ?_)
  · skip
    cases h
    exact x_fr.rf
  · skip
    obtain ⟨-, h⟩ := x_ifn h
    obtain ⟨-, h⟩ := x_ifn h
    cases h
    exact (x_frI (p := 21) (k := 5) rfl (x_frI (p := 25) rfl (x_frI (p := 24) rfl x_fr.rf)))
set_option maxHeartbeats 4000000 in
set_option maxRecDepth 100000 in
theorem fr_Re_readChange_2_21 {v2 : Int32} {σ : xS} {r : Int32 × xS} (h : f_Re_readChange_2_21 v2 σ = some r) : x_fr [(2, 4), (2, 6), (2, 7), (21, 5), (24, 99999), (25, 99999)] σ r.2 := by
  unfold f_Re_readChange_2_21 at h
  try dsimp only at h
  refine x_iteC h (fun h => ?_) (fun h => ?_)
  · skip
    obtain ⟨q1, q1h, h⟩ := x_bind h
    try dsimp only at h
    have q1f := fr_Re_advance_2 q1h
    obtain ⟨q2, q2h, h⟩ := x_bind h
    try dsimp only at h
    have q2f := fr_Sc_lastChange_21 q2h
    obtain ⟨q3, q3h, h⟩ := x_bind h
    try dsimp only at h
    have q3f := fr_Re_isNumber_2 q3h
    refine x_iteC h (fun h => ?_) (fun h => ?_)
    · skip
      cases h
      exact (x_fr.trans (x_fr.trans (x_fr.trans x_fr.rf (x_fr.su q1f rfl)) (x_fr.su q2f rfl)) (x_fr.su q3f rfl))
    · skip
      obtain ⟨q4, q4h, h⟩ := x_bind h
      try dsimp only at h
      have q4f := fr_Re_takeNumber_2 q4h
      obtain ⟨q5, q5h, h⟩ := x_bind h
      try dsimp only at h
      have q5f := fr_Sc_addChange_21 q5h
      obtain ⟨q6, q6h, h⟩ := x_bind h
      try dsimp only at h
      have q6f := fr_Re_readEnd_2 q6h
      obtain ⟨-, h⟩ := x_ift h
      cases h
      exact (x_fr.trans (x_fr.trans (x_fr.trans (x_fr.trans (x_fr.trans (x_fr.trans x_fr.rf (x_fr.su q1f rfl)) (x_fr.su q2f rfl)) (x_fr.su q3f rfl)) (x_fr.su q4f rfl)) (x_fr.su q5f rfl)) (x_fr.su q6f rfl))
  · skip
    obtain ⟨q7, q7h, h⟩ := x_bind h
    try dsimp only at h
    have q7f := fr_Re_refuse_2 q7h
    obtain ⟨-, h⟩ := x_ift h
    cases h
    exact (x_fr.trans x_fr.rf (x_fr.su q7f rfl))
set_option maxHeartbeats 4000000 in
set_option maxRecDepth 100000 in
theorem fr_Sc_addMark_21 {v1 : Int32} {σ : xS} {r : Unit × xS} (h : f_Sc_addMark_21 v1 σ = some r) : x_fr [(21, 8), (26, 99999)] σ r.2 := by
  unfold f_Sc_addMark_21 at h
  try dsimp only at h
  refine x_iteC h (fun h => ?_) (fun h => ?_)
  · skip
    cases h
    exact x_fr.rf
  · skip
    obtain ⟨-, h⟩ := x_ifn h
    cases h
    exact (x_frI (p := 21) (k := 8) rfl (x_frI (p := 26) rfl x_fr.rf))
set_option maxHeartbeats 4000000 in
set_option maxRecDepth 100000 in
theorem fr_RH_isNearMark_26_L4 {v1 : Int32} {v2 : Int32} {v3 : Int32} {a : Int32 × xS} {o : ((Int32 × xS) ⊕ (Int32 × xS)) ⊕ (Int32 × xS)} (h : f_RH_isNearMark_26_L4 v1 v2 v3 a = some o) : x_frO [] (fun a => a.2) (fun b => match b with | .inl q => q.2 | .inr e => e.2) a.2 o := by
  unfold f_RH_isNearMark_26_L4 at h
  try dsimp only at h
  refine x_iteC h (fun h => ?_) (fun h => ?_)
  · skip
    cases h
    exact x_frO.b x_fr.rf
  · skip
    refine x_iteC h (fun h => ?_) (fun h => ?_)
    · skip
      cases h
      exact x_frO.b x_fr.rf
    · skip
      obtain ⟨-, h⟩ := x_ifn h
      refine x_iteC h (fun h => ?_) (fun h => ?_)
      · skip
        cases h
        exact x_frO.a1 x_fr.rf
      · skip
        cases h
        exact x_frO.b x_fr.rf
set_option maxHeartbeats 4000000 in
set_option maxRecDepth 100000 in
theorem fr_RH_isNearMark_26 {v1 : Int32} {v2 : Int32} {v3 : Int32} {σ : xS} {r : Int32 × xS} (h : f_RH_isNearMark_26 v1 v2 v3 σ = some r) : x_fr [] σ r.2 := by
  unfold f_RH_isNearMark_26 at h
  try dsimp only at h
  obtain ⟨b2, b2h, h⟩ := x_bind h
  try dsimp only at h
  have b2f := x_itF (sA := (fun a => a.2)) (sB := (fun b => match b with | .inl q => q.2 | .inr e => e.2)) (fun a o h => fr_RH_isNearMark_26_L4 h) _ _ _ b2h
  cases b2 with
  | inl b2r =>
    try dsimp only at h
    cases h
    exact (x_fr.trans x_fr.rf (x_fr.su b2f rfl))
  | inr b2e =>
    try dsimp only at h
    cases h
    exact (x_fr.trans x_fr.rf (x_fr.su b2f rfl))
set_option maxHeartbeats 4000000 in
set_option maxRecDepth 100000 in
theorem fr_Re_readMark_2_21 {σ : xS} {r : Int32 × xS} (h : f_Re_readMark_2_21 σ = some r) : x_fr [(2, 4), (2, 6), (2, 7), (21, 8), (26, 99999)] σ r.2 := by
  unfold f_Re_readMark_2_21 at h
  try dsimp only at h
  refine x_iteC h (fun h => ?_) (fun h => ?_)
  · skip
    obtain ⟨q1, q1h, h⟩ := x_bind h
    try dsimp only at h
    have q1f := fr_Re_advance_2 q1h
    obtain ⟨q2, q2h, h⟩ := x_bind h
    try dsimp only at h
    have q2f := fr_Re_isNumber_2 q2h
    refine x_iteC h (fun h => ?_) (fun h => ?_)
    · skip
      cases h
      exact (x_fr.trans (x_fr.trans x_fr.rf (x_fr.su q1f rfl)) (x_fr.su q2f rfl))
    · skip
      refine x_iteC h (fun h => ?_) (fun h => ?_)
      · skip
        obtain ⟨q3, q3h, h⟩ := x_bind h
        try dsimp only at h
        have q3f := fr_Re_takeNumber_2 q3h
        obtain ⟨q4, q4h, h⟩ := x_bind h
        try dsimp only at h
        have q4f := fr_Sc_addMark_21 q4h
        obtain ⟨q5, q5h, h⟩ := x_bind h
        try dsimp only at h
        have q5f := fr_Re_readEnd_2 q5h
        obtain ⟨-, h⟩ := x_ift h
        cases h
        exact (x_fr.trans (x_fr.trans (x_fr.trans (x_fr.trans (x_fr.trans x_fr.rf (x_fr.su q1f rfl)) (x_fr.su q2f rfl)) (x_fr.su q3f rfl)) (x_fr.su q4f rfl)) (x_fr.su q5f rfl))
      · skip
        obtain ⟨-, h⟩ := x_ifn h
        obtain ⟨q6, q6h, h⟩ := x_bind h
        try dsimp only at h
        have q6f := fr_RH_isNearMark_26 q6h
        refine x_iteC h (fun h => ?_) (fun h => ?_)
        · skip
          obtain ⟨q7, q7h, h⟩ := x_bind h
          try dsimp only at h
          have q7f := fr_Re_takeNumber_2 q7h
          obtain ⟨q8, q8h, h⟩ := x_bind h
          try dsimp only at h
          have q8f := fr_Sc_addMark_21 q8h
          obtain ⟨q9, q9h, h⟩ := x_bind h
          try dsimp only at h
          have q9f := fr_Re_readEnd_2 q9h
          obtain ⟨-, h⟩ := x_ift h
          cases h
          exact (x_fr.trans (x_fr.trans (x_fr.trans (x_fr.trans (x_fr.trans (x_fr.trans x_fr.rf (x_fr.su q1f rfl)) (x_fr.su q2f rfl)) (x_fr.su q6f rfl)) (x_fr.su q7f rfl)) (x_fr.su q8f rfl)) (x_fr.su q9f rfl))
        · skip
          obtain ⟨q10, q10h, h⟩ := x_bind h
          try dsimp only at h
          have q10f := fr_Re_refuse_2 q10h
          obtain ⟨-, h⟩ := x_ift h
          cases h
          exact (x_fr.trans (x_fr.trans (x_fr.trans (x_fr.trans x_fr.rf (x_fr.su q1f rfl)) (x_fr.su q2f rfl)) (x_fr.su q6f rfl)) (x_fr.su q10f rfl))
  · skip
    obtain ⟨q11, q11h, h⟩ := x_bind h
    try dsimp only at h
    have q11f := fr_Re_refuse_2 q11h
    obtain ⟨-, h⟩ := x_ift h
    cases h
    exact (x_fr.trans x_fr.rf (x_fr.su q11f rfl))
set_option maxHeartbeats 4000000 in
set_option maxRecDepth 100000 in
theorem fr_Re_isFirst_2 {v1 : Int32} {σ : xS} {r : Int32 × xS} (h : f_Re_isFirst_2 v1 σ = some r) : x_fr [(2, 6), (2, 7), (6, 99999)] σ r.2 := by
  unfold f_Re_isFirst_2 at h
  try dsimp only at h
  refine x_iteC h (fun h => ?_) (fun h => ?_)
  · skip
    obtain ⟨q1, q1h, h⟩ := x_bind h
    try dsimp only at h
    have q1f := fr_Re_refuse_2 q1h
    obtain ⟨-, h⟩ := x_ift h
    cases h
    exact (x_fr.trans x_fr.rf (x_fr.su q1f rfl))
  · skip
    refine x_iteC h (fun h => ?_) (fun h => ?_)
    · skip
      obtain ⟨q2, q2h, h⟩ := x_bind h
      try dsimp only at h
      have q2f := fr_Re_refuse_2 q2h
      obtain ⟨-, h⟩ := x_ift h
      cases h
      exact (x_fr.trans x_fr.rf (x_fr.su q2f rfl))
    · skip
      obtain ⟨-, h⟩ := x_ifn h
      refine x_iteC h (fun h => ?_) (fun h => ?_)
      · skip
        obtain ⟨-, h⟩ := x_ifn h
        cases h
        exact (x_frI (p := 6) rfl x_fr.rf)
      · skip
        obtain ⟨q4, q4h, h⟩ := x_bind h
        try dsimp only at h
        have q4f := fr_Re_refuse_2 q4h
        obtain ⟨-, h⟩ := x_ift h
        cases h
        exact (x_fr.trans x_fr.rf (x_fr.su q4f rfl))
set_option maxHeartbeats 4000000 in
set_option maxRecDepth 100000 in
theorem fr_Re_readSetting_2_21 {v2 : Int32} {v3 : Int32} {v4 : Int32} {σ : xS} {r : Int32 × xS} (h : f_Re_readSetting_2_21 v2 v3 v4 σ = some r) : x_fr [(2, 4), (2, 6), (2, 7), (6, 99999), (26, 99999)] σ r.2 := by
  unfold f_Re_readSetting_2_21 at h
  try dsimp only at h
  obtain ⟨q1, q1h, h⟩ := x_bind h
  try dsimp only at h
  have q1f := fr_Re_isFirst_2 q1h
  refine x_iteC h (fun h => ?_) (fun h => ?_)
  · skip
    cases h
    exact (x_fr.trans x_fr.rf (x_fr.su q1f rfl))
  · skip
    obtain ⟨q2, q2h, h⟩ := x_bind h
    try dsimp only at h
    have q2f := fr_Re_advance_2 q2h
    obtain ⟨q3, q3h, h⟩ := x_bind h
    try dsimp only at h
    have q3f := fr_Re_isNumber_2 q3h
    refine x_iteC h (fun h => ?_) (fun h => ?_)
    · skip
      cases h
      exact (x_fr.trans (x_fr.trans (x_fr.trans x_fr.rf (x_fr.su q1f rfl)) (x_fr.su q2f rfl)) (x_fr.su q3f rfl))
    · skip
      obtain ⟨q4, q4h, h⟩ := x_bind h
      try dsimp only at h
      have q4f := fr_Re_takeNumber_2 q4h
      obtain ⟨-, h⟩ := x_ifn h
      obtain ⟨q6, q6h, h⟩ := x_bind h
      try dsimp only at h
      have q6f := fr_Re_readEnd_2 q6h
      obtain ⟨-, h⟩ := x_ift h
      cases h
      exact (x_fr.trans (x_frI (p := 26) rfl (x_fr.trans (x_fr.trans (x_fr.trans (x_fr.trans x_fr.rf (x_fr.su q1f rfl)) (x_fr.su q2f rfl)) (x_fr.su q3f rfl)) (x_fr.su q4f rfl))) (x_fr.su q6f rfl))
